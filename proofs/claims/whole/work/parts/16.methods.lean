/-! LostByStateModel.deeds()I -/
theorem dX12_deeds_0 : decode cX12_deeds 0 = .ok (.aload_n 0, 1) := by decide +kernel
theorem dX12_deeds_1 : decode cX12_deeds 1 = .ok (.iconst 0, 1) := by decide +kernel
theorem dX12_deeds_2 : decode cX12_deeds 2 = .ok (.putfield 86, 3) := by decide +kernel
theorem dX12_deeds_5 : decode cX12_deeds 5 = .ok (.aload_n 0, 1) := by decide +kernel
theorem dX12_deeds_6 : decode cX12_deeds 6 = .ok (.bipush 53, 2) := by decide +kernel
theorem dX12_deeds_8 : decode cX12_deeds 8 = .ok (.invokevirtual 150, 3) := by decide +kernel
theorem dX12_deeds_11 : decode cX12_deeds 11 = .ok (.aload_n 0, 1) := by decide +kernel
theorem dX12_deeds_12 : decode cX12_deeds 12 = .ok (.getfield 108, 3) := by decide +kernel
theorem dX12_deeds_15 : decode cX12_deeds 15 = .ok (.ifCond .ne 5, 3) := by decide +kernel
theorem dX12_deeds_18 : decode cX12_deeds 18 = .ok (.iconst 0, 1) := by decide +kernel
theorem dX12_deeds_19 : decode cX12_deeds 19 = .ok (.ireturn, 1) := by decide +kernel
theorem dX12_deeds_20 : decode cX12_deeds 20 = .ok (.iconst 0, 1) := by decide +kernel
theorem dX12_deeds_21 : decode cX12_deeds 21 = .ok (.istore_n 1, 1) := by decide +kernel
theorem dX12_deeds_22 : decode cX12_deeds 22 = .ok (.iconst 1, 1) := by decide +kernel
theorem dX12_deeds_23 : decode cX12_deeds 23 = .ok (.istore_n 2, 1) := by decide +kernel
theorem dX12_deeds_24 : decode cX12_deeds 24 = .ok (.iload_n 2, 1) := by decide +kernel
theorem dX12_deeds_25 : decode cX12_deeds 25 = .ok (.ifCond .eq 85, 3) := by decide +kernel
theorem dX12_deeds_28 : decode cX12_deeds 28 = .ok (.aload_n 0, 1) := by decide +kernel
theorem dX12_deeds_29 : decode cX12_deeds 29 = .ok (.invokevirtual 124, 3) := by decide +kernel
theorem dX12_deeds_32 : decode cX12_deeds 32 = .ok (.ifCond .eq 78, 3) := by decide +kernel
theorem dX12_deeds_35 : decode cX12_deeds 35 = .ok (.aload_n 0, 1) := by decide +kernel
theorem dX12_deeds_36 : decode cX12_deeds 36 = .ok (.getfield 99, 3) := by decide +kernel
theorem dX12_deeds_39 : decode cX12_deeds 39 = .ok (.iload_n 1, 1) := by decide +kernel
theorem dX12_deeds_40 : decode cX12_deeds 40 = .ok (.iadd, 1) := by decide +kernel
theorem dX12_deeds_41 : decode cX12_deeds 41 = .ok (.bipush 6, 2) := by decide +kernel
theorem dX12_deeds_43 : decode cX12_deeds 43 = .ok (.if_icmp .ne 14, 3) := by decide +kernel
theorem dX12_deeds_46 : decode cX12_deeds 46 = .ok (.aload_n 0, 1) := by decide +kernel
theorem dX12_deeds_47 : decode cX12_deeds 47 = .ok (.aload_n 0, 1) := by decide +kernel
theorem dX12_deeds_48 : decode cX12_deeds 48 = .ok (.getfield 114, 3) := by decide +kernel
theorem dX12_deeds_51 : decode cX12_deeds 51 = .ok (.invokevirtual 136, 3) := by decide +kernel
theorem dX12_deeds_54 : decode cX12_deeds 54 = .ok (.goto 43, 3) := by decide +kernel
theorem dX12_deeds_57 : decode cX12_deeds 57 = .ok (.aload_n 0, 1) := by decide +kernel
theorem dX12_deeds_58 : decode cX12_deeds 58 = .ok (.getfield 37, 3) := by decide +kernel
theorem dX12_deeds_61 : decode cX12_deeds 61 = .ok (.iload_n 1, 1) := by decide +kernel
theorem dX12_deeds_62 : decode cX12_deeds 62 = .ok (.aload_n 0, 1) := by decide +kernel
theorem dX12_deeds_63 : decode cX12_deeds 63 = .ok (.bipush 48, 2) := by decide +kernel
theorem dX12_deeds_65 : decode cX12_deeds 65 = .ok (.aload_n 0, 1) := by decide +kernel
theorem dX12_deeds_66 : decode cX12_deeds 66 = .ok (.getfield 92, 3) := by decide +kernel
theorem dX12_deeds_69 : decode cX12_deeds 69 = .ok (.invokevirtual 153, 3) := by decide +kernel
theorem dX12_deeds_72 : decode cX12_deeds 72 = .ok (.iastore, 1) := by decide +kernel
theorem dX12_deeds_73 : decode cX12_deeds 73 = .ok (.aload_n 0, 1) := by decide +kernel
theorem dX12_deeds_74 : decode cX12_deeds 74 = .ok (.invokevirtual 124, 3) := by decide +kernel
theorem dX12_deeds_77 : decode cX12_deeds 77 = .ok (.ifCond .eq 20, 3) := by decide +kernel
theorem dX12_deeds_80 : decode cX12_deeds 80 = .ok (.aload_n 0, 1) := by decide +kernel
theorem dX12_deeds_81 : decode cX12_deeds 81 = .ok (.getfield 37, 3) := by decide +kernel
theorem dX12_deeds_84 : decode cX12_deeds 84 = .ok (.iload_n 1, 1) := by decide +kernel
theorem dX12_deeds_85 : decode cX12_deeds 85 = .ok (.iaload, 1) := by decide +kernel
theorem dX12_deeds_86 : decode cX12_deeds 86 = .ok (.ifCond .ne 11, 3) := by decide +kernel
theorem dX12_deeds_89 : decode cX12_deeds 89 = .ok (.aload_n 0, 1) := by decide +kernel
theorem dX12_deeds_90 : decode cX12_deeds 90 = .ok (.aload_n 0, 1) := by decide +kernel
theorem dX12_deeds_91 : decode cX12_deeds 91 = .ok (.getfield 114, 3) := by decide +kernel
theorem dX12_deeds_94 : decode cX12_deeds 94 = .ok (.invokevirtual 136, 3) := by decide +kernel
theorem dX12_deeds_97 : decode cX12_deeds 97 = .ok (.iinc 1 1, 3) := by decide +kernel
theorem dX12_deeds_100 : decode cX12_deeds 100 = .ok (.aload_n 0, 1) := by decide +kernel
theorem dX12_deeds_101 : decode cX12_deeds 101 = .ok (.bipush 59, 2) := by decide +kernel
theorem dX12_deeds_103 : decode cX12_deeds 103 = .ok (.invokevirtual 132, 3) := by decide +kernel
theorem dX12_deeds_106 : decode cX12_deeds 106 = .ok (.istore_n 2, 1) := by decide +kernel
theorem dX12_deeds_107 : decode cX12_deeds 107 = .ok (.goto (-83), 3) := by decide +kernel
theorem dX12_deeds_110 : decode cX12_deeds 110 = .ok (.aload_n 0, 1) := by decide +kernel
theorem dX12_deeds_111 : decode cX12_deeds 111 = .ok (.invokevirtual 157, 3) := by decide +kernel
theorem dX12_deeds_114 : decode cX12_deeds 114 = .ok (.ifCond .ne 10, 3) := by decide +kernel
theorem dX12_deeds_117 : decode cX12_deeds 117 = .ok (.iconst (-1), 1) := by decide +kernel
theorem dX12_deeds_118 : decode cX12_deeds 118 = .ok (.aload_n 0, 1) := by decide +kernel
theorem dX12_deeds_119 : decode cX12_deeds 119 = .ok (.getfield 117, 3) := by decide +kernel
theorem dX12_deeds_122 : decode cX12_deeds 122 = .ok (.isub, 1) := by decide +kernel
theorem dX12_deeds_123 : decode cX12_deeds 123 = .ok (.ireturn, 1) := by decide +kernel
theorem dX12_deeds_124 : decode cX12_deeds 124 = .ok (.iconst 0, 1) := by decide +kernel
theorem dX12_deeds_125 : decode cX12_deeds 125 = .ok (.istore_n 3, 1) := by decide +kernel
theorem dX12_deeds_126 : decode cX12_deeds 126 = .ok (.iload_n 3, 1) := by decide +kernel
theorem dX12_deeds_127 : decode cX12_deeds 127 = .ok (.iload_n 1, 1) := by decide +kernel
theorem dX12_deeds_128 : decode cX12_deeds 128 = .ok (.if_icmp .ge 34, 3) := by decide +kernel
theorem dX12_deeds_131 : decode cX12_deeds 131 = .ok (.aload_n 0, 1) := by decide +kernel
theorem dX12_deeds_132 : decode cX12_deeds 132 = .ok (.getfield 26, 3) := by decide +kernel
theorem dX12_deeds_135 : decode cX12_deeds 135 = .ok (.aload_n 0, 1) := by decide +kernel
theorem dX12_deeds_136 : decode cX12_deeds 136 = .ok (.getfield 99, 3) := by decide +kernel
theorem dX12_deeds_139 : decode cX12_deeds 139 = .ok (.aload_n 0, 1) := by decide +kernel
theorem dX12_deeds_140 : decode cX12_deeds 140 = .ok (.getfield 37, 3) := by decide +kernel
theorem dX12_deeds_143 : decode cX12_deeds 143 = .ok (.iload_n 3, 1) := by decide +kernel
theorem dX12_deeds_144 : decode cX12_deeds 144 = .ok (.iaload, 1) := by decide +kernel
theorem dX12_deeds_145 : decode cX12_deeds 145 = .ok (.iastore, 1) := by decide +kernel
theorem dX12_deeds_146 : decode cX12_deeds 146 = .ok (.aload_n 0, 1) := by decide +kernel
theorem dX12_deeds_147 : decode cX12_deeds 147 = .ok (.dup, 1) := by decide +kernel
theorem dX12_deeds_148 : decode cX12_deeds 148 = .ok (.getfield 99, 3) := by decide +kernel
theorem dX12_deeds_151 : decode cX12_deeds 151 = .ok (.iconst 1, 1) := by decide +kernel
theorem dX12_deeds_152 : decode cX12_deeds 152 = .ok (.iadd, 1) := by decide +kernel
theorem dX12_deeds_153 : decode cX12_deeds 153 = .ok (.putfield 99, 3) := by decide +kernel
theorem dX12_deeds_156 : decode cX12_deeds 156 = .ok (.iinc 3 1, 3) := by decide +kernel
theorem dX12_deeds_159 : decode cX12_deeds 159 = .ok (.goto (-33), 3) := by decide +kernel
theorem dX12_deeds_162 : decode cX12_deeds 162 = .ok (.aload_n 0, 1) := by decide +kernel
theorem dX12_deeds_163 : decode cX12_deeds 163 = .ok (.invokevirtual 160, 3) := by decide +kernel
theorem dX12_deeds_166 : decode cX12_deeds 166 = .ok (.iload_n 1, 1) := by decide +kernel
theorem dX12_deeds_167 : decode cX12_deeds 167 = .ok (.ireturn, 1) := by decide +kernel
def fX12_deeds_L24 : Nat → Int32 → Int32 → zM → Option (Int32 × zM)
  | 0, _, _, _ => none
  | n + 1, x1, x2, M => if x2 = 0 then (
    some (x1, M))
    else (
    if (fX12_fine M) = 0 then (
    some (x1, M))
    else (
    (if ((M.1 36 2) + x1) = 6 then (
    zlet (fX12_fault (M.1 36 16) M) fun (M51 : zM) =>
    some M51)
    else (
    (fX12_rising 48 (M.1 36 1) M).bind fun (q : Int32 × zM) => zp q fun r4 M69 =>
    if zin x1 16 then (
    zlet (zSI M69 43 x1.toNatClampNeg r4) fun (M72 : zM) =>
    if (fX12_fine M72) = 0 then (
    some M72)
    else (
    if (M72.1 43 x1.toNatClampNeg) = 0 then (
    zlet (fX12_fault (M72.1 36 16) M72) fun (M94 : zM) =>
    some M94)
    else (
    some M72))) else none) : Option zM).bind fun (M_97 : zM) =>
    (fX12_passes 59 M_97).bind fun (q : Int32 × zM) => zp q fun r9 M103 =>
    fX12_deeds_L24 n (x1 + 1) r9 M103))
def fX12_deeds_L126 (x1 : Int32) : Nat → Int32 → zM → Option zM
  | 0, _, _ => none
  | n + 1, x3, M => if x1 ≤ x3 then (
    some M)
    else (
    if zin x3 16 then (
    if zin (M.1 36 2) 6 then (
    zlet (zSI M 40 (M.1 36 2).toNatClampNeg (M.1 43 x3.toNatClampNeg)) fun (M145 : zM) =>
    zlet (zSI M145 36 2 ((M145.1 36 2) + 1)) fun (M153 : zM) =>
    fX12_deeds_L126 x1 n (x3 + 1) M153) else none) else none)
def fX12_deeds  (M : zM) : Option (Int32 × zM) := zlet (zSI M 36 12 0) fun (M2 : zM) =>
  zlet (fX12_beginText 53 M2) fun (M8 : zM) =>
  if (M8.1 36 14) = 0 then (
  some (0, M8))
  else (
  (fX12_deeds_L24 4000 0 1 M8).bind fun (q : Int32 × zM) => zp q fun x1_110 M_110 =>
  zlet ((fX12_wasRight M_110).2) fun (M111 : zM) =>
  if ((fX12_wasRight M_110).1) = 0 then (
  some ((-1) - (M111.1 36 17), M111))
  else (
  (fX12_deeds_L126 x1_110 4000 0 M111).bind fun (M_162 : zM) =>
  zlet (fX12_told M_162) fun (M163 : zM) =>
  some (x1_110, M163)))
set_option maxHeartbeats 4000000 in
theorem lX12_deeds_24 {E : zE} {Γ : zT} {d : Nat} {K1 : (Int32 × zM) → Prop} (hC : Cx E Γ RX12 cX12_deeds 4 d) (hd : 3 ≤ d) (hx : ∀ (x1_110 : Int32) (M_110 : zM), K1 (x1_110, M_110) → G E Γ 4 110 [(0, .ref 36), (1, .int x1_110)] [] M_110) :
    ∀ (n : Nat) (x1 : Int32) (x2 : Int32) (M : zM), wpO (fX12_deeds_L24 n x1 x2 M) K1 → G E Γ 4 24 [(0, .ref 36), (1, .int x1), (2, .int x2)] [] M := by
  intro n
  induction n with
  | zero =>
    intro x1 x2 M h
    exact (wpO_0 h).elim
  | succ n ih =>
    intro x1 x2 M h
    rw [fX12_deeds_L24.eq_2] at h
    refine g_iload_n (i := 2) (x := x2) hC (dX12_deeds_24) rfl rfl ?_
    refine g_if_eq (tgt := 110) hC (dX12_deeds_25) (by decide) (fun c25 => ?_) (fun c25 => ?_)
    · have h := wpO_t c25 h
      refine g_sub (lv' := [(0, .ref 36), (1, .int x1)]) [0, 1] rfl ?_
      exact hx _ _ (wpO_s h)
    · have h := wpO_f c25 h
      refine g_aload_n (i := 0) (x := 36) hC (dX12_deeds_28) rfl rfl ?_
      refine g_callVi ([]) hC wvX12_124 (dX12_deeds_29) rfl rfl (by omega) (Nat.le_of_ble_eq_true rfl) (cX12_fine_ok (by omega) M (K := fun r => r = fX12_fine M) rfl) (fun r N q => ?_)
      obtain ⟨rfl, rfl⟩ := q
      refine g_if_eq (tgt := 110) hC (dX12_deeds_32) (by decide) (fun c32 => ?_) (fun c32 => ?_)
      · have h := wpO_t c32 h
        refine g_sub (lv' := [(0, .ref 36), (1, .int x1)]) [0, 1] rfl ?_
        exact hx _ _ (wpO_s h)
      · have h := wpO_f c32 h
        refine g_aload_n (i := 0) (x := 36) hC (dX12_deeds_35) rfl rfl ?_
        refine g_getI hC flX12_99 (dX12_deeds_36) rfl rfl ?_
        refine g_iload_n (i := 1) (x := x1) hC (dX12_deeds_39) rfl rfl ?_
        refine g_iadd hC (dX12_deeds_40) ?_
        refine g_bipush (v := 6) hC (dX12_deeds_41) kb_6 ?_
        refine wpO_bJ h (fun KJ3 hKJ3 h => ?_)
        have hJ3 : ∀ (M_97 : zM), KJ3 M_97 → G E Γ 4 97 [(0, .ref 36), (1, .int x1)] [] M_97 := by
          intro M_97 h
          have h := hKJ3 _ h
          refine g_iinc (x := x1) (v := (x1 + 1)) (lv2 := [(1, .int (x1 + 1)), (0, .ref 36)]) hC (dX12_deeds_97) rfl rfl (by decide) rfl ?_
          refine g_aload_n (i := 0) (x := 36) hC (dX12_deeds_100) rfl rfl ?_
          refine g_bipush (v := 59) hC (dX12_deeds_101) kb_59 ?_
          have h := wpO_b h
          refine g_callVi ([.int 59]) hC wvX12_132 (dX12_deeds_103) rfl rfl (by omega) (Nat.le_of_ble_eq_true rfl) (cX12_passes_ok (by omega) 59 M_97 h) (fun r9 M103 h => ?_)
          have h := wpO_p h
          refine g_istore_n (i := 2) (lv2 := [(2, .int r9), (1, .int (x1 + 1)), (0, .ref 36)]) hC (dX12_deeds_106) rfl (by decide) rfl ?_
          refine g_goto (tgt := 24) hC (dX12_deeds_107) (by decide) ?_
          refine g_sub (lv' := [(0, .ref 36), (1, .int (x1 + 1)), (2, .int r9)]) [2, 1, 0] rfl ?_
          exact ih _ _ _ h
        refine g_icmp_ne (tgt := 57) hC (dX12_deeds_43) (by decide) (fun c43 => ?_) (fun c43 => ?_)
        · have h := wpO_f c43 h
          refine g_aload_n (i := 0) (x := 36) hC (dX12_deeds_57) rfl rfl ?_
          refine g_getR (r := 43) hC flX12_37 (dX12_deeds_58) rfl rfl rfl ?_
          refine g_iload_n (i := 1) (x := x1) hC (dX12_deeds_61) rfl rfl ?_
          refine g_aload_n (i := 0) (x := 36) hC (dX12_deeds_62) rfl rfl ?_
          refine g_bipush (v := 48) hC (dX12_deeds_63) kb_48 ?_
          refine g_aload_n (i := 0) (x := 36) hC (dX12_deeds_65) rfl rfl ?_
          refine g_getI hC flX12_92 (dX12_deeds_66) rfl rfl ?_
          have h := wpO_b h
          refine g_callVi ([.int 48, .int (M.1 36 1)]) hC wvX12_153 (dX12_deeds_69) rfl rfl (by omega) (Nat.le_of_ble_eq_true rfl) (cX12_rising_ok (by omega) 48 (M.1 36 1) M h) (fun r4 M69 h => ?_)
          have h := wpO_p h
          obtain ⟨q5, h⟩ := wpO_g h
          refine g_iastore (n := 16) hC (dX12_deeds_72) rfl q5 ?_
          refine g_nmM (fun M72 e_M72 => ?_)
          have h := wpO_n e_M72 h
          refine g_aload_n (i := 0) (x := 36) hC (dX12_deeds_73) rfl rfl ?_
          refine g_callVi ([]) hC wvX12_124 (dX12_deeds_74) rfl rfl (by omega) (Nat.le_of_ble_eq_true rfl) (cX12_fine_ok (by omega) M72 (K := fun r => r = fX12_fine M72) rfl) (fun r N q => ?_)
          obtain ⟨rfl, rfl⟩ := q
          refine g_if_eq (tgt := 97) hC (dX12_deeds_77) (by decide) (fun c77 => ?_) (fun c77 => ?_)
          · have h := wpO_t c77 h
            refine g_sub (lv' := [(0, .ref 36), (1, .int x1)]) [0, 1] rfl ?_
            exact hJ3 _ (wpO_s h)
          · have h := wpO_f c77 h
            refine g_aload_n (i := 0) (x := 36) hC (dX12_deeds_80) rfl rfl ?_
            refine g_getR (r := 43) hC flX12_37 (dX12_deeds_81) rfl rfl rfl ?_
            refine g_iload_n (i := 1) (x := x1) hC (dX12_deeds_84) rfl rfl ?_
            refine g_iaload (n := 16) hC (dX12_deeds_85) rfl q5 ?_
            refine g_if_ne (tgt := 97) hC (dX12_deeds_86) (by decide) (fun c86 => ?_) (fun c86 => ?_)
            · have h := wpO_f c86 h
              refine g_sub (lv' := [(0, .ref 36), (1, .int x1)]) [0, 1] rfl ?_
              exact hJ3 _ (wpO_s h)
            · have h := wpO_t c86 h
              refine g_aload_n (i := 0) (x := 36) hC (dX12_deeds_89) rfl rfl ?_
              refine g_aload_n (i := 0) (x := 36) hC (dX12_deeds_90) rfl rfl ?_
              refine g_getI hC flX12_114 (dX12_deeds_91) rfl rfl ?_
              refine g_callVv ([.int (M72.1 36 16)]) hC wvX12_136 (dX12_deeds_94) rfl rfl (by omega) (Nat.le_of_ble_eq_true rfl) (cX12_fault_ok (by omega) (M72.1 36 16) M72 (K := fun r => r = fX12_fault (M72.1 36 16) M72) rfl) (fun N q => ?_)
              subst q
              refine g_nmM (fun M94 e_M94 => ?_)
              have h := wpO_n e_M94 h
              refine g_sub (lv' := [(0, .ref 36), (1, .int x1)]) [0, 1] rfl ?_
              exact hJ3 _ (wpO_s h)
        · have h := wpO_t c43 h
          refine g_aload_n (i := 0) (x := 36) hC (dX12_deeds_46) rfl rfl ?_
          refine g_aload_n (i := 0) (x := 36) hC (dX12_deeds_47) rfl rfl ?_
          refine g_getI hC flX12_114 (dX12_deeds_48) rfl rfl ?_
          refine g_callVv ([.int (M.1 36 16)]) hC wvX12_136 (dX12_deeds_51) rfl rfl (by omega) (Nat.le_of_ble_eq_true rfl) (cX12_fault_ok (by omega) (M.1 36 16) M (K := fun r => r = fX12_fault (M.1 36 16) M) rfl) (fun N q => ?_)
          subst q
          refine g_nmM (fun M51 e_M51 => ?_)
          have h := wpO_n e_M51 h
          refine g_goto (tgt := 97) hC (dX12_deeds_54) (by decide) ?_
          refine g_sub (lv' := [(0, .ref 36), (1, .int x1)]) [0, 1] rfl ?_
          exact hJ3 _ (wpO_s h)
set_option maxHeartbeats 4000000 in
theorem lX12_deeds_126 {E : zE} {Γ : zT} {d : Nat} {K1 : zM → Prop} (hC : Cx E Γ RX12 cX12_deeds 4 d) (hd : 3 ≤ d) (x1 : Int32) (hx : ∀ (M_162 : zM), K1 M_162 → G E Γ 4 162 [(0, .ref 36), (1, .int x1)] [] M_162) :
    ∀ (n : Nat) (x3 : Int32) (M : zM), wpO (fX12_deeds_L126 x1 n x3 M) K1 → G E Γ 4 126 [(0, .ref 36), (1, .int x1), (3, .int x3)] [] M := by
  intro n
  induction n with
  | zero =>
    intro x3 M h
    exact (wpO_0 h).elim
  | succ n ih =>
    intro x3 M h
    rw [fX12_deeds_L126.eq_2] at h
    refine g_iload_n (i := 3) (x := x3) hC (dX12_deeds_126) rfl rfl ?_
    refine g_iload_n (i := 1) (x := x1) hC (dX12_deeds_127) rfl rfl ?_
    refine g_icmp_ge (tgt := 162) hC (dX12_deeds_128) (by decide) (fun c128 => ?_) (fun c128 => ?_)
    · have h := wpO_t c128 h
      refine g_sub (lv' := [(0, .ref 36), (1, .int x1)]) [0, 1] rfl ?_
      exact hx _ (wpO_s h)
    · have h := wpO_f c128 h
      refine g_aload_n (i := 0) (x := 36) hC (dX12_deeds_131) rfl rfl ?_
      refine g_getR (r := 40) hC flX12_26 (dX12_deeds_132) rfl rfl rfl ?_
      refine g_aload_n (i := 0) (x := 36) hC (dX12_deeds_135) rfl rfl ?_
      refine g_getI hC flX12_99 (dX12_deeds_136) rfl rfl ?_
      refine g_aload_n (i := 0) (x := 36) hC (dX12_deeds_139) rfl rfl ?_
      refine g_getR (r := 43) hC flX12_37 (dX12_deeds_140) rfl rfl rfl ?_
      refine g_iload_n (i := 3) (x := x3) hC (dX12_deeds_143) rfl rfl ?_
      obtain ⟨q11, h⟩ := wpO_g h
      refine g_iaload (n := 16) hC (dX12_deeds_144) rfl q11 ?_
      obtain ⟨q12, h⟩ := wpO_g h
      refine g_iastore (n := 6) hC (dX12_deeds_145) rfl q12 ?_
      refine g_nmM (fun M145 e_M145 => ?_)
      have h := wpO_n e_M145 h
      refine g_aload_n (i := 0) (x := 36) hC (dX12_deeds_146) rfl rfl ?_
      refine g_dup hC (dX12_deeds_147) rfl ?_
      refine g_getI hC flX12_99 (dX12_deeds_148) rfl rfl ?_
      refine g_iconst (v := 1) hC (dX12_deeds_151) kc_1 ?_
      refine g_iadd hC (dX12_deeds_152) ?_
      refine g_putI hC fpX12_99 (dX12_deeds_153) rfl rfl rfl rfl ?_
      refine g_nmM (fun M153 e_M153 => ?_)
      have h := wpO_n e_M153 h
      refine g_iinc (x := x3) (v := (x3 + 1)) (lv2 := [(3, .int (x3 + 1)), (0, .ref 36), (1, .int x1)]) hC (dX12_deeds_156) rfl rfl (by decide) rfl ?_
      refine g_goto (tgt := 126) hC (dX12_deeds_159) (by decide) ?_
      refine g_sub (lv' := [(0, .ref 36), (1, .int x1), (3, .int (x3 + 1))]) [1, 2, 0] rfl ?_
      exact ih _ _ h
set_option maxHeartbeats 4000000 in
theorem cX12_deeds_ok {E : zE} {d : Nat} (hd : 3 ≤ d)  (M : zM) {K : (Int32 × zM) → Prop} (h : wpO (fX12_deeds  M) K) : CMi E d yX12_deeds cX12_deeds 4 (some .int) [.ref 36] M (fun r N => K (r, N)) := by
  refine CMi.of (by decide) (Nat.le_of_ble_eq_true rfl) (fun Γ hC hr => ?_)
  have hC : Cx E Γ RX12 cX12_deeds 4 d := hC
  show G E Γ 4 0 [(0, .ref 36)] [] M
  unfold fX12_deeds at h
  refine g_aload_n (i := 0) (x := 36) hC (dX12_deeds_0) rfl rfl ?_
  refine g_iconst (v := 0) hC (dX12_deeds_1) kc_0 ?_
  refine g_putI hC fpX12_86 (dX12_deeds_2) rfl rfl rfl rfl ?_
  refine g_nmM (fun M2 e_M2 => ?_)
  have h := wpO_n e_M2 h
  refine g_aload_n (i := 0) (x := 36) hC (dX12_deeds_5) rfl rfl ?_
  refine g_bipush (v := 53) hC (dX12_deeds_6) kb_53 ?_
  refine g_callVv ([.int 53]) hC wvX12_150 (dX12_deeds_8) rfl rfl (by omega) (Nat.le_of_ble_eq_true rfl) (cX12_beginText_ok (by omega) 53 M2 (K := fun r => r = fX12_beginText 53 M2) rfl) (fun N q => ?_)
  subst q
  refine g_nmM (fun M8 e_M8 => ?_)
  have h := wpO_n e_M8 h
  refine g_aload_n (i := 0) (x := 36) hC (dX12_deeds_11) rfl rfl ?_
  refine g_getI hC flX12_108 (dX12_deeds_12) rfl rfl ?_
  refine g_if_ne (tgt := 20) hC (dX12_deeds_15) (by decide) (fun c15 => ?_) (fun c15 => ?_)
  · have h := wpO_f c15 h
    refine g_iconst (v := 0) hC (dX12_deeds_20) kc_0 ?_
    refine g_istore_n (i := 1) (lv2 := [(1, .int 0), (0, .ref 36)]) hC (dX12_deeds_21) rfl (by decide) rfl ?_
    refine g_iconst (v := 1) hC (dX12_deeds_22) kc_1 ?_
    refine g_istore_n (i := 2) (lv2 := [(2, .int 1), (1, .int 0), (0, .ref 36)]) hC (dX12_deeds_23) rfl (by decide) rfl ?_
    refine g_sub (lv' := [(0, .ref 36), (1, .int 0), (2, .int 1)]) [2, 1, 0] rfl ?_
    refine wpO_bJ h (fun KL24 hKL24 h => ?_)
    refine lX12_deeds_24 (K1 := KL24) hC (by omega)  (fun x1_110 M_110 h => ?_) _ _ _ _ h
    have h := hKL24 _ h
    have h := wpO_p h
    refine g_aload_n (i := 0) (x := 36) hC (dX12_deeds_110) rfl rfl ?_
    refine g_callVi ([]) hC wvX12_157 (dX12_deeds_111) rfl rfl (by omega) (Nat.le_of_ble_eq_true rfl) (cX12_wasRight_ok (by omega) M_110 (K := fun r => r = fX12_wasRight M_110) rfl) (fun r N q => ?_)
    obtain ⟨rfl, rfl⟩ : r = (fX12_wasRight M_110).1 ∧ N = (fX12_wasRight M_110).2 := ⟨congrArg Prod.fst q, congrArg Prod.snd q⟩
    refine g_nmM (fun M111 e_M111 => ?_)
    have h := wpO_n e_M111 h
    refine g_if_ne (tgt := 124) hC (dX12_deeds_114) (by decide) (fun c114 => ?_) (fun c114 => ?_)
    · have h := wpO_f c114 h
      refine g_iconst (v := 0) hC (dX12_deeds_124) kc_0 ?_
      refine g_istore_n (i := 3) (lv2 := [(3, .int 0), (0, .ref 36), (1, .int x1_110)]) hC (dX12_deeds_125) rfl (by decide) rfl ?_
      refine g_sub (lv' := [(0, .ref 36), (1, .int x1_110), (3, .int 0)]) [1, 2, 0] rfl ?_
      refine wpO_bJ h (fun KL126 hKL126 h => ?_)
      refine lX12_deeds_126 (K1 := KL126) hC (by omega) x1_110 (fun M_162 h => ?_) _ _ _ h
      have h := hKL126 _ h
      refine g_aload_n (i := 0) (x := 36) hC (dX12_deeds_162) rfl rfl ?_
      refine g_callVv ([]) hC wvX12_160 (dX12_deeds_163) rfl rfl (by omega) (Nat.le_of_ble_eq_true rfl) (cX12_told_ok (by omega) M_162 (K := fun r => r = fX12_told M_162) rfl) (fun N q => ?_)
      subst q
      refine g_nmM (fun M163 e_M163 => ?_)
      have h := wpO_n e_M163 h
      refine g_iload_n (i := 1) (x := x1_110) hC (dX12_deeds_166) rfl rfl ?_
      refine g_ireturn hC hr (dX12_deeds_167) ?_
      exact wpO_s h
    · have h := wpO_t c114 h
      refine g_iconst (v := (-1)) hC (dX12_deeds_117) kc_m1 ?_
      refine g_aload_n (i := 0) (x := 36) hC (dX12_deeds_118) rfl rfl ?_
      refine g_getI hC flX12_117 (dX12_deeds_119) rfl rfl ?_
      refine g_isub hC (dX12_deeds_122) ?_
      refine g_ireturn hC hr (dX12_deeds_123) ?_
      exact wpO_s h
  · have h := wpO_t c15 h
    refine g_iconst (v := 0) hC (dX12_deeds_18) kc_0 ?_
    refine g_ireturn hC hr (dX12_deeds_19) ?_
    exact wpO_s h
/-! LostByStateModel.letterOf(I)I -/
theorem dX12_letterOf_0 : decode cX12_letterOf 0 = .ok (.iload_n 0, 1) := by decide +kernel
theorem dX12_letterOf_1 : decode cX12_letterOf 1 = .ok (.bipush 109, 2) := by decide +kernel
theorem dX12_letterOf_3 : decode cX12_letterOf 3 = .ok (.if_icmp .ne 7, 3) := by decide +kernel
theorem dX12_letterOf_6 : decode cX12_letterOf 6 = .ok (.iconst 0, 1) := by decide +kernel
theorem dX12_letterOf_7 : decode cX12_letterOf 7 = .ok (.goto 54, 3) := by decide +kernel
theorem dX12_letterOf_10 : decode cX12_letterOf 10 = .ok (.iload_n 0, 1) := by decide +kernel
theorem dX12_letterOf_11 : decode cX12_letterOf 11 = .ok (.bipush 120, 2) := by decide +kernel
theorem dX12_letterOf_13 : decode cX12_letterOf 13 = .ok (.if_icmp .ne 7, 3) := by decide +kernel
theorem dX12_letterOf_16 : decode cX12_letterOf 16 = .ok (.iconst 1, 1) := by decide +kernel
theorem dX12_letterOf_17 : decode cX12_letterOf 17 = .ok (.goto 44, 3) := by decide +kernel
theorem dX12_letterOf_20 : decode cX12_letterOf 20 = .ok (.iload_n 0, 1) := by decide +kernel
theorem dX12_letterOf_21 : decode cX12_letterOf 21 = .ok (.bipush 121, 2) := by decide +kernel
theorem dX12_letterOf_23 : decode cX12_letterOf 23 = .ok (.if_icmp .ne 7, 3) := by decide +kernel
theorem dX12_letterOf_26 : decode cX12_letterOf 26 = .ok (.iconst 2, 1) := by decide +kernel
theorem dX12_letterOf_27 : decode cX12_letterOf 27 = .ok (.goto 34, 3) := by decide +kernel
theorem dX12_letterOf_30 : decode cX12_letterOf 30 = .ok (.iload_n 0, 1) := by decide +kernel
theorem dX12_letterOf_31 : decode cX12_letterOf 31 = .ok (.bipush 119, 2) := by decide +kernel
theorem dX12_letterOf_33 : decode cX12_letterOf 33 = .ok (.if_icmp .ne 7, 3) := by decide +kernel
theorem dX12_letterOf_36 : decode cX12_letterOf 36 = .ok (.iconst 3, 1) := by decide +kernel
theorem dX12_letterOf_37 : decode cX12_letterOf 37 = .ok (.goto 24, 3) := by decide +kernel
theorem dX12_letterOf_40 : decode cX12_letterOf 40 = .ok (.iload_n 0, 1) := by decide +kernel
theorem dX12_letterOf_41 : decode cX12_letterOf 41 = .ok (.bipush 100, 2) := by decide +kernel
theorem dX12_letterOf_43 : decode cX12_letterOf 43 = .ok (.if_icmp .ne 7, 3) := by decide +kernel
theorem dX12_letterOf_46 : decode cX12_letterOf 46 = .ok (.iconst 4, 1) := by decide +kernel
theorem dX12_letterOf_47 : decode cX12_letterOf 47 = .ok (.goto 14, 3) := by decide +kernel
theorem dX12_letterOf_50 : decode cX12_letterOf 50 = .ok (.iload_n 0, 1) := by decide +kernel
theorem dX12_letterOf_51 : decode cX12_letterOf 51 = .ok (.bipush 110, 2) := by decide +kernel
theorem dX12_letterOf_53 : decode cX12_letterOf 53 = .ok (.if_icmp .ne 7, 3) := by decide +kernel
theorem dX12_letterOf_56 : decode cX12_letterOf 56 = .ok (.iconst 5, 1) := by decide +kernel
theorem dX12_letterOf_57 : decode cX12_letterOf 57 = .ok (.goto 4, 3) := by decide +kernel
theorem dX12_letterOf_60 : decode cX12_letterOf 60 = .ok (.iconst (-1), 1) := by decide +kernel
theorem dX12_letterOf_61 : decode cX12_letterOf 61 = .ok (.ireturn, 1) := by decide +kernel
def fX12_letterOf (x0 : Int32) : Int32 := if x0 = 109 then (
  0)
  else (
  if x0 = 120 then (
  1)
  else (
  if x0 = 121 then (
  2)
  else (
  if x0 = 119 then (
  3)
  else (
  if x0 = 100 then (
  4)
  else (
  if x0 = 110 then (
  5)
  else (
  (-1)))))))
set_option maxHeartbeats 4000000 in
theorem cX12_letterOf_ok {E : zE} {d : Nat} (hd : 0 ≤ d) (x0 : Int32) (M : zM) {K : Int32 → Prop} (h : wpI (fX12_letterOf x0) K) : CMi E d yX12_letterOf cX12_letterOf 1 (some .int) [.int x0] M (fun r N => M = N ∧ K r) := by
  refine CMi.of (by decide) (Nat.le_of_ble_eq_true rfl) (fun Γ hC hr => ?_)
  have hC : Cx E Γ RX12 cX12_letterOf 1 d := hC
  show G E Γ 1 0 [(0, .int x0)] [] M
  unfold fX12_letterOf at h
  refine g_iload_n (i := 0) (x := x0) hC (dX12_letterOf_0) rfl rfl ?_
  refine g_bipush (v := 109) hC (dX12_letterOf_1) kb_109 ?_
  refine g_icmp_ne (tgt := 10) hC (dX12_letterOf_3) (by decide) (fun c3 => ?_) (fun c3 => ?_)
  · have h := wpI_f c3 h
    refine g_iload_n (i := 0) (x := x0) hC (dX12_letterOf_10) rfl rfl ?_
    refine g_bipush (v := 120) hC (dX12_letterOf_11) kb_120 ?_
    refine g_icmp_ne (tgt := 20) hC (dX12_letterOf_13) (by decide) (fun c13 => ?_) (fun c13 => ?_)
    · have h := wpI_f c13 h
      refine g_iload_n (i := 0) (x := x0) hC (dX12_letterOf_20) rfl rfl ?_
      refine g_bipush (v := 121) hC (dX12_letterOf_21) kb_121 ?_
      refine g_icmp_ne (tgt := 30) hC (dX12_letterOf_23) (by decide) (fun c23 => ?_) (fun c23 => ?_)
      · have h := wpI_f c23 h
        refine g_iload_n (i := 0) (x := x0) hC (dX12_letterOf_30) rfl rfl ?_
        refine g_bipush (v := 119) hC (dX12_letterOf_31) kb_119 ?_
        refine g_icmp_ne (tgt := 40) hC (dX12_letterOf_33) (by decide) (fun c33 => ?_) (fun c33 => ?_)
        · have h := wpI_f c33 h
          refine g_iload_n (i := 0) (x := x0) hC (dX12_letterOf_40) rfl rfl ?_
          refine g_bipush (v := 100) hC (dX12_letterOf_41) kb_100 ?_
          refine g_icmp_ne (tgt := 50) hC (dX12_letterOf_43) (by decide) (fun c43 => ?_) (fun c43 => ?_)
          · have h := wpI_f c43 h
            refine g_iload_n (i := 0) (x := x0) hC (dX12_letterOf_50) rfl rfl ?_
            refine g_bipush (v := 110) hC (dX12_letterOf_51) kb_110 ?_
            refine g_icmp_ne (tgt := 60) hC (dX12_letterOf_53) (by decide) (fun c53 => ?_) (fun c53 => ?_)
            · have h := wpI_f c53 h
              refine g_iconst (v := (-1)) hC (dX12_letterOf_60) kc_m1 ?_
              refine g_ireturn hC hr (dX12_letterOf_61) ?_
              exact ⟨rfl, wpI_s h⟩
            · have h := wpI_t c53 h
              refine g_iconst (v := 5) hC (dX12_letterOf_56) kc_5 ?_
              refine g_goto (tgt := 61) hC (dX12_letterOf_57) (by decide) ?_
              refine g_ireturn hC hr (dX12_letterOf_61) ?_
              exact ⟨rfl, wpI_s h⟩
          · have h := wpI_t c43 h
            refine g_iconst (v := 4) hC (dX12_letterOf_46) kc_4 ?_
            refine g_goto (tgt := 61) hC (dX12_letterOf_47) (by decide) ?_
            refine g_ireturn hC hr (dX12_letterOf_61) ?_
            exact ⟨rfl, wpI_s h⟩
        · have h := wpI_t c33 h
          refine g_iconst (v := 3) hC (dX12_letterOf_36) kc_3 ?_
          refine g_goto (tgt := 61) hC (dX12_letterOf_37) (by decide) ?_
          refine g_ireturn hC hr (dX12_letterOf_61) ?_
          exact ⟨rfl, wpI_s h⟩
      · have h := wpI_t c23 h
        refine g_iconst (v := 2) hC (dX12_letterOf_26) kc_2 ?_
        refine g_goto (tgt := 61) hC (dX12_letterOf_27) (by decide) ?_
        refine g_ireturn hC hr (dX12_letterOf_61) ?_
        exact ⟨rfl, wpI_s h⟩
    · have h := wpI_t c13 h
      refine g_iconst (v := 1) hC (dX12_letterOf_16) kc_1 ?_
      refine g_goto (tgt := 61) hC (dX12_letterOf_17) (by decide) ?_
      refine g_ireturn hC hr (dX12_letterOf_61) ?_
      exact ⟨rfl, wpI_s h⟩
  · have h := wpI_t c3 h
    refine g_iconst (v := 0) hC (dX12_letterOf_6) kc_0 ?_
    refine g_goto (tgt := 61) hC (dX12_letterOf_7) (by decide) ?_
    refine g_ireturn hC hr (dX12_letterOf_61) ?_
    exact ⟨rfl, wpI_s h⟩
/-! LostByStateModel.held(I)I -/
theorem dX12_held_0 : decode cX12_held 0 = .ok (.aload_n 0, 1) := by decide +kernel
theorem dX12_held_1 : decode cX12_held 1 = .ok (.iload_n 1, 1) := by decide +kernel
theorem dX12_held_2 : decode cX12_held 2 = .ok (.invokevirtual 163, 3) := by decide +kernel
theorem dX12_held_5 : decode cX12_held 5 = .ok (.istore_n 2, 1) := by decide +kernel
theorem dX12_held_6 : decode cX12_held 6 = .ok (.aload_n 0, 1) := by decide +kernel
theorem dX12_held_7 : decode cX12_held 7 = .ok (.bipush 60, 2) := by decide +kernel
theorem dX12_held_9 : decode cX12_held 9 = .ok (.invokevirtual 132, 3) := by decide +kernel
theorem dX12_held_12 : decode cX12_held 12 = .ok (.ifCond .eq 18, 3) := by decide +kernel
theorem dX12_held_15 : decode cX12_held 15 = .ok (.iload_n 2, 1) := by decide +kernel
theorem dX12_held_16 : decode cX12_held 16 = .ok (.aload_n 0, 1) := by decide +kernel
theorem dX12_held_17 : decode cX12_held 17 = .ok (.iload_n 1, 1) := by decide +kernel
theorem dX12_held_18 : decode cX12_held 18 = .ok (.invokevirtual 163, 3) := by decide +kernel
theorem dX12_held_21 : decode cX12_held 21 = .ok (.if_icmp .ge 7, 3) := by decide +kernel
theorem dX12_held_24 : decode cX12_held 24 = .ok (.iconst 1, 1) := by decide +kernel
theorem dX12_held_25 : decode cX12_held 25 = .ok (.goto 4, 3) := by decide +kernel
theorem dX12_held_28 : decode cX12_held 28 = .ok (.iconst 0, 1) := by decide +kernel
theorem dX12_held_29 : decode cX12_held 29 = .ok (.ireturn, 1) := by decide +kernel
theorem dX12_held_30 : decode cX12_held 30 = .ok (.aload_n 0, 1) := by decide +kernel
theorem dX12_held_31 : decode cX12_held 31 = .ok (.bipush 62, 2) := by decide +kernel
theorem dX12_held_33 : decode cX12_held 33 = .ok (.invokevirtual 132, 3) := by decide +kernel
theorem dX12_held_36 : decode cX12_held 36 = .ok (.ifCond .eq 18, 3) := by decide +kernel
theorem dX12_held_39 : decode cX12_held 39 = .ok (.iload_n 2, 1) := by decide +kernel
theorem dX12_held_40 : decode cX12_held 40 = .ok (.aload_n 0, 1) := by decide +kernel
theorem dX12_held_41 : decode cX12_held 41 = .ok (.iload_n 1, 1) := by decide +kernel
theorem dX12_held_42 : decode cX12_held 42 = .ok (.invokevirtual 163, 3) := by decide +kernel
theorem dX12_held_45 : decode cX12_held 45 = .ok (.if_icmp .le 7, 3) := by decide +kernel
theorem dX12_held_48 : decode cX12_held 48 = .ok (.iconst 1, 1) := by decide +kernel
theorem dX12_held_49 : decode cX12_held 49 = .ok (.goto 4, 3) := by decide +kernel
theorem dX12_held_52 : decode cX12_held 52 = .ok (.iconst 0, 1) := by decide +kernel
theorem dX12_held_53 : decode cX12_held 53 = .ok (.ireturn, 1) := by decide +kernel
theorem dX12_held_54 : decode cX12_held 54 = .ok (.aload_n 0, 1) := by decide +kernel
theorem dX12_held_55 : decode cX12_held 55 = .ok (.bipush 61, 2) := by decide +kernel
theorem dX12_held_57 : decode cX12_held 57 = .ok (.invokevirtual 132, 3) := by decide +kernel
theorem dX12_held_60 : decode cX12_held 60 = .ok (.ifCond .eq 18, 3) := by decide +kernel
theorem dX12_held_63 : decode cX12_held 63 = .ok (.iload_n 2, 1) := by decide +kernel
theorem dX12_held_64 : decode cX12_held 64 = .ok (.aload_n 0, 1) := by decide +kernel
theorem dX12_held_65 : decode cX12_held 65 = .ok (.iload_n 1, 1) := by decide +kernel
theorem dX12_held_66 : decode cX12_held 66 = .ok (.invokevirtual 163, 3) := by decide +kernel
theorem dX12_held_69 : decode cX12_held 69 = .ok (.if_icmp .ne 7, 3) := by decide +kernel
theorem dX12_held_72 : decode cX12_held 72 = .ok (.iconst 1, 1) := by decide +kernel
theorem dX12_held_73 : decode cX12_held 73 = .ok (.goto 4, 3) := by decide +kernel
theorem dX12_held_76 : decode cX12_held 76 = .ok (.iconst 0, 1) := by decide +kernel
theorem dX12_held_77 : decode cX12_held 77 = .ok (.ireturn, 1) := by decide +kernel
theorem dX12_held_78 : decode cX12_held 78 = .ok (.iload_n 2, 1) := by decide +kernel
theorem dX12_held_79 : decode cX12_held 79 = .ok (.ireturn, 1) := by decide +kernel
def fX12_held (rec : Nat → Int32 → zM → Option (Int32 × zM)) (x1 : Int32) (M : zM) : Option (Int32 × zM) := (rec 1 x1 M).bind fun (q : Int32 × zM) => zp q fun r1 M2 =>
  (fX12_passes 60 M2).bind fun (q : Int32 × zM) => zp q fun r2 M9 =>
  if r2 = 0 then (
  (fX12_passes 62 M9).bind fun (q : Int32 × zM) => zp q fun r3 M33 =>
  if r3 = 0 then (
  (fX12_passes 61 M33).bind fun (q : Int32 × zM) => zp q fun r4 M57 =>
  if r4 = 0 then (
  some (r1, M57))
  else (
  (rec 1 x1 M57).bind fun (q : Int32 × zM) => zp q fun r5 M66 =>
  if r1 = r5 then (
  some (1, M66))
  else (
  some (0, M66))))
  else (
  (rec 1 x1 M33).bind fun (q : Int32 × zM) => zp q fun r6 M42 =>
  if r1 ≤ r6 then (
  some (0, M42))
  else (
  some (1, M42))))
  else (
  (rec 1 x1 M9).bind fun (q : Int32 × zM) => zp q fun r7 M18 =>
  if r7 ≤ r1 then (
  some (0, M18))
  else (
  some (1, M18)))
set_option maxHeartbeats 4000000 in
theorem cX12_held_ok {E : zE} {d : Nat} (hd : 2 ≤ d) {rec : Nat → Int32 → zM → Option (Int32 × zM)} (hrec0 : ∀ (x1 : Int32) (M : zM) {K : (Int32 × zM) → Prop}, wpO (rec 0 x1 M) K → CMi E (d - 1) yX12_held cX12_held 3 (some .int) [.ref 36, .int x1] M (fun r N => K (r, N))) (hrec1 : ∀ (x1 : Int32) (M : zM) {K : (Int32 × zM) → Prop}, wpO (rec 1 x1 M) K → CMi E (d - 1) yX12_sum cX12_sum 5 (some .int) [.ref 36, .int x1] M (fun r N => K (r, N))) (hrec2 : ∀ (x1 : Int32) (M : zM) {K : (Int32 × zM) → Prop}, wpO (rec 2 x1 M) K → CMi E (d - 1) yX12_product cX12_product 5 (some .int) [.ref 36, .int x1] M (fun r N => K (r, N))) (hrec3 : ∀ (x1 : Int32) (M : zM) {K : (Int32 × zM) → Prop}, wpO (rec 3 x1 M) K → CMi E (d - 1) yX12_part cX12_part 4 (some .int) [.ref 36, .int x1] M (fun r N => K (r, N))) (x1 : Int32) (M : zM) {K : (Int32 × zM) → Prop} (h : wpO (fX12_held rec x1 M) K) : CMi E d yX12_held cX12_held 3 (some .int) [.ref 36, .int x1] M (fun r N => K (r, N)) := by
  refine CMi.of (by decide) (Nat.le_of_ble_eq_true rfl) (fun Γ hC hr => ?_)
  have hC : Cx E Γ RX12 cX12_held 3 d := hC
  show G E Γ 3 0 [(0, .ref 36), (1, .int x1)] [] M
  unfold fX12_held at h
  refine g_aload_n (i := 0) (x := 36) hC (dX12_held_0) rfl rfl ?_
  refine g_iload_n (i := 1) (x := x1) hC (dX12_held_1) rfl rfl ?_
  have h := wpO_b h
  refine g_callVi ([.int x1]) hC wvX12_163 (dX12_held_2) rfl rfl (by omega) (Nat.le_of_ble_eq_true rfl) (hrec1 x1 M h) (fun r1 M2 h => ?_)
  have h := wpO_p h
  refine g_istore_n (i := 2) (lv2 := [(2, .int r1), (0, .ref 36), (1, .int x1)]) hC (dX12_held_5) rfl (by decide) rfl ?_
  refine g_aload_n (i := 0) (x := 36) hC (dX12_held_6) rfl rfl ?_
  refine g_bipush (v := 60) hC (dX12_held_7) kb_60 ?_
  have h := wpO_b h
  refine g_callVi ([.int 60]) hC wvX12_132 (dX12_held_9) rfl rfl (by omega) (Nat.le_of_ble_eq_true rfl) (cX12_passes_ok (by omega) 60 M2 h) (fun r2 M9 h => ?_)
  have h := wpO_p h
  refine g_if_eq (tgt := 30) hC (dX12_held_12) (by decide) (fun c12 => ?_) (fun c12 => ?_)
  · have h := wpO_t c12 h
    refine g_aload_n (i := 0) (x := 36) hC (dX12_held_30) rfl rfl ?_
    refine g_bipush (v := 62) hC (dX12_held_31) kb_62 ?_
    have h := wpO_b h
    refine g_callVi ([.int 62]) hC wvX12_132 (dX12_held_33) rfl rfl (by omega) (Nat.le_of_ble_eq_true rfl) (cX12_passes_ok (by omega) 62 M9 h) (fun r3 M33 h => ?_)
    have h := wpO_p h
    refine g_if_eq (tgt := 54) hC (dX12_held_36) (by decide) (fun c36 => ?_) (fun c36 => ?_)
    · have h := wpO_t c36 h
      refine g_aload_n (i := 0) (x := 36) hC (dX12_held_54) rfl rfl ?_
      refine g_bipush (v := 61) hC (dX12_held_55) kb_61 ?_
      have h := wpO_b h
      refine g_callVi ([.int 61]) hC wvX12_132 (dX12_held_57) rfl rfl (by omega) (Nat.le_of_ble_eq_true rfl) (cX12_passes_ok (by omega) 61 M33 h) (fun r4 M57 h => ?_)
      have h := wpO_p h
      refine g_if_eq (tgt := 78) hC (dX12_held_60) (by decide) (fun c60 => ?_) (fun c60 => ?_)
      · have h := wpO_t c60 h
        refine g_iload_n (i := 2) (x := r1) hC (dX12_held_78) rfl rfl ?_
        refine g_ireturn hC hr (dX12_held_79) ?_
        exact wpO_s h
      · have h := wpO_f c60 h
        refine g_iload_n (i := 2) (x := r1) hC (dX12_held_63) rfl rfl ?_
        refine g_aload_n (i := 0) (x := 36) hC (dX12_held_64) rfl rfl ?_
        refine g_iload_n (i := 1) (x := x1) hC (dX12_held_65) rfl rfl ?_
        have h := wpO_b h
        refine g_callVi ([.int x1]) hC wvX12_163 (dX12_held_66) rfl rfl (by omega) (Nat.le_of_ble_eq_true rfl) (hrec1 x1 M57 h) (fun r5 M66 h => ?_)
        have h := wpO_p h
        refine g_icmp_ne (tgt := 76) hC (dX12_held_69) (by decide) (fun c69 => ?_) (fun c69 => ?_)
        · have h := wpO_f c69 h
          refine g_iconst (v := 0) hC (dX12_held_76) kc_0 ?_
          refine g_ireturn hC hr (dX12_held_77) ?_
          exact wpO_s h
        · have h := wpO_t c69 h
          refine g_iconst (v := 1) hC (dX12_held_72) kc_1 ?_
          refine g_goto (tgt := 77) hC (dX12_held_73) (by decide) ?_
          refine g_ireturn hC hr (dX12_held_77) ?_
          exact wpO_s h
    · have h := wpO_f c36 h
      refine g_iload_n (i := 2) (x := r1) hC (dX12_held_39) rfl rfl ?_
      refine g_aload_n (i := 0) (x := 36) hC (dX12_held_40) rfl rfl ?_
      refine g_iload_n (i := 1) (x := x1) hC (dX12_held_41) rfl rfl ?_
      have h := wpO_b h
      refine g_callVi ([.int x1]) hC wvX12_163 (dX12_held_42) rfl rfl (by omega) (Nat.le_of_ble_eq_true rfl) (hrec1 x1 M33 h) (fun r6 M42 h => ?_)
      have h := wpO_p h
      refine g_icmp_le (tgt := 52) hC (dX12_held_45) (by decide) (fun c45 => ?_) (fun c45 => ?_)
      · have h := wpO_t c45 h
        refine g_iconst (v := 0) hC (dX12_held_52) kc_0 ?_
        refine g_ireturn hC hr (dX12_held_53) ?_
        exact wpO_s h
      · have h := wpO_f c45 h
        refine g_iconst (v := 1) hC (dX12_held_48) kc_1 ?_
        refine g_goto (tgt := 53) hC (dX12_held_49) (by decide) ?_
        refine g_ireturn hC hr (dX12_held_53) ?_
        exact wpO_s h
  · have h := wpO_f c12 h
    refine g_iload_n (i := 2) (x := r1) hC (dX12_held_15) rfl rfl ?_
    refine g_aload_n (i := 0) (x := 36) hC (dX12_held_16) rfl rfl ?_
    refine g_iload_n (i := 1) (x := x1) hC (dX12_held_17) rfl rfl ?_
    have h := wpO_b h
    refine g_callVi ([.int x1]) hC wvX12_163 (dX12_held_18) rfl rfl (by omega) (Nat.le_of_ble_eq_true rfl) (hrec1 x1 M9 h) (fun r7 M18 h => ?_)
    have h := wpO_p h
    refine g_icmp_ge (tgt := 28) hC (dX12_held_21) (by decide) (fun c21 => ?_) (fun c21 => ?_)
    · have h := wpO_t c21 h
      refine g_iconst (v := 0) hC (dX12_held_28) kc_0 ?_
      refine g_ireturn hC hr (dX12_held_29) ?_
      exact wpO_s h
    · have h := wpO_f c21 h
      refine g_iconst (v := 1) hC (dX12_held_24) kc_1 ?_
      refine g_goto (tgt := 29) hC (dX12_held_25) (by decide) ?_
      refine g_ireturn hC hr (dX12_held_29) ?_
      exact wpO_s h
/-! LostByStateModel.sum(I)I -/
theorem dX12_sum_0 : decode cX12_sum 0 = .ok (.aload_n 0, 1) := by decide +kernel
theorem dX12_sum_1 : decode cX12_sum 1 = .ok (.iload_n 1, 1) := by decide +kernel
theorem dX12_sum_2 : decode cX12_sum 2 = .ok (.invokevirtual 167, 3) := by decide +kernel
theorem dX12_sum_5 : decode cX12_sum 5 = .ok (.istore_n 2, 1) := by decide +kernel
theorem dX12_sum_6 : decode cX12_sum 6 = .ok (.aload_n 0, 1) := by decide +kernel
theorem dX12_sum_7 : decode cX12_sum 7 = .ok (.invokevirtual 124, 3) := by decide +kernel
theorem dX12_sum_10 : decode cX12_sum 10 = .ok (.ifCond .eq 72, 3) := by decide +kernel
theorem dX12_sum_13 : decode cX12_sum 13 = .ok (.aload_n 0, 1) := by decide +kernel
theorem dX12_sum_14 : decode cX12_sum 14 = .ok (.invokevirtual 128, 3) := by decide +kernel
theorem dX12_sum_17 : decode cX12_sum 17 = .ok (.bipush 43, 2) := by decide +kernel
theorem dX12_sum_19 : decode cX12_sum 19 = .ok (.if_icmp .eq 12, 3) := by decide +kernel
theorem dX12_sum_22 : decode cX12_sum 22 = .ok (.aload_n 0, 1) := by decide +kernel
theorem dX12_sum_23 : decode cX12_sum 23 = .ok (.invokevirtual 128, 3) := by decide +kernel
theorem dX12_sum_26 : decode cX12_sum 26 = .ok (.bipush 45, 2) := by decide +kernel
theorem dX12_sum_28 : decode cX12_sum 28 = .ok (.if_icmp .ne 54, 3) := by decide +kernel
theorem dX12_sum_31 : decode cX12_sum 31 = .ok (.aload_n 0, 1) := by decide +kernel
theorem dX12_sum_32 : decode cX12_sum 32 = .ok (.invokevirtual 128, 3) := by decide +kernel
theorem dX12_sum_35 : decode cX12_sum 35 = .ok (.bipush 43, 2) := by decide +kernel
theorem dX12_sum_37 : decode cX12_sum 37 = .ok (.if_icmp .ne 7, 3) := by decide +kernel
theorem dX12_sum_40 : decode cX12_sum 40 = .ok (.iconst 1, 1) := by decide +kernel
theorem dX12_sum_41 : decode cX12_sum 41 = .ok (.goto 4, 3) := by decide +kernel
theorem dX12_sum_44 : decode cX12_sum 44 = .ok (.iconst 0, 1) := by decide +kernel
theorem dX12_sum_45 : decode cX12_sum 45 = .ok (.istore_n 3, 1) := by decide +kernel
theorem dX12_sum_46 : decode cX12_sum 46 = .ok (.aload_n 0, 1) := by decide +kernel
theorem dX12_sum_47 : decode cX12_sum 47 = .ok (.dup, 1) := by decide +kernel
theorem dX12_sum_48 : decode cX12_sum 48 = .ok (.getfield 114, 3) := by decide +kernel
theorem dX12_sum_51 : decode cX12_sum 51 = .ok (.iconst 1, 1) := by decide +kernel
theorem dX12_sum_52 : decode cX12_sum 52 = .ok (.iadd, 1) := by decide +kernel
theorem dX12_sum_53 : decode cX12_sum 53 = .ok (.putfield 114, 3) := by decide +kernel
theorem dX12_sum_56 : decode cX12_sum 56 = .ok (.aload_n 0, 1) := by decide +kernel
theorem dX12_sum_57 : decode cX12_sum 57 = .ok (.iload_n 1, 1) := by decide +kernel
theorem dX12_sum_58 : decode cX12_sum 58 = .ok (.invokevirtual 167, 3) := by decide +kernel
theorem dX12_sum_61 : decode cX12_sum 61 = .ok (.istore 4, 2) := by decide +kernel
theorem dX12_sum_63 : decode cX12_sum 63 = .ok (.iload_n 3, 1) := by decide +kernel
theorem dX12_sum_64 : decode cX12_sum 64 = .ok (.ifCond .eq 10, 3) := by decide +kernel
theorem dX12_sum_67 : decode cX12_sum 67 = .ok (.iload_n 2, 1) := by decide +kernel
theorem dX12_sum_68 : decode cX12_sum 68 = .ok (.iload 4, 2) := by decide +kernel
theorem dX12_sum_70 : decode cX12_sum 70 = .ok (.iadd, 1) := by decide +kernel
theorem dX12_sum_71 : decode cX12_sum 71 = .ok (.goto 7, 3) := by decide +kernel
theorem dX12_sum_74 : decode cX12_sum 74 = .ok (.iload_n 2, 1) := by decide +kernel
theorem dX12_sum_75 : decode cX12_sum 75 = .ok (.iload 4, 2) := by decide +kernel
theorem dX12_sum_77 : decode cX12_sum 77 = .ok (.isub, 1) := by decide +kernel
theorem dX12_sum_78 : decode cX12_sum 78 = .ok (.istore_n 2, 1) := by decide +kernel
theorem dX12_sum_79 : decode cX12_sum 79 = .ok (.goto (-73), 3) := by decide +kernel
theorem dX12_sum_82 : decode cX12_sum 82 = .ok (.iload_n 2, 1) := by decide +kernel
theorem dX12_sum_83 : decode cX12_sum 83 = .ok (.ireturn, 1) := by decide +kernel
def fX12_sum_L6 (rec : Nat → Int32 → zM → Option (Int32 × zM)) (x1 : Int32) : Nat → Int32 → zM → Option (Int32 × zM)
  | 0, _, _ => none
  | n + 1, x2, M => if (fX12_fine M) = 0 then (
    some (x2, M))
    else (
    (fX12_here M).bind fun (r3 : Int32) =>
    zj (fun (_ : Unit) =>
    (fX12_here M).bind fun (r6 : Int32) =>
    zlet (if r6 = 43 then (
    1)
    else (
    0)) fun (s0_45 : Int32) =>
    zlet (zSI M 36 16 ((M.1 36 16) + 1)) fun (M53 : zM) =>
    (rec 2 x1 M53).bind fun (q : Int32 × zM) => zp q fun r8 M58 =>
    zlet (if s0_45 = 0 then (
    (x2 - r8))
    else (
    (x2 + r8))) fun (s0_78 : Int32) =>
    fX12_sum_L6 rec x1 n s0_78 M58)
    fun J4 =>
    if r3 = 43 then (
    J4 ())
    else (
    (fX12_here M).bind fun (r5 : Int32) =>
    if r5 = 45 then (
    J4 ())
    else (
    some (x2, M))))
def fX12_sum (rec : Nat → Int32 → zM → Option (Int32 × zM)) (x1 : Int32) (M : zM) : Option (Int32 × zM) := (rec 2 x1 M).bind fun (q : Int32 × zM) => zp q fun r1 M2 =>
  (fX12_sum_L6 rec x1 4000 r1 M2).bind fun (q : Int32 × zM) => zp q fun x2_82 M_82 =>
  some (x2_82, M_82)
set_option maxHeartbeats 4000000 in
theorem lX12_sum_6 {E : zE} {Γ : zT} {d : Nat} {K1 : (Int32 × zM) → Prop} (hC : Cx E Γ RX12 cX12_sum 5 d) {rec : Nat → Int32 → zM → Option (Int32 × zM)} (hrec0 : ∀ (x1 : Int32) (M : zM) {K : (Int32 × zM) → Prop}, wpO (rec 0 x1 M) K → CMi E (d - 1) yX12_held cX12_held 3 (some .int) [.ref 36, .int x1] M (fun r N => K (r, N))) (hrec1 : ∀ (x1 : Int32) (M : zM) {K : (Int32 × zM) → Prop}, wpO (rec 1 x1 M) K → CMi E (d - 1) yX12_sum cX12_sum 5 (some .int) [.ref 36, .int x1] M (fun r N => K (r, N))) (hrec2 : ∀ (x1 : Int32) (M : zM) {K : (Int32 × zM) → Prop}, wpO (rec 2 x1 M) K → CMi E (d - 1) yX12_product cX12_product 5 (some .int) [.ref 36, .int x1] M (fun r N => K (r, N))) (hrec3 : ∀ (x1 : Int32) (M : zM) {K : (Int32 × zM) → Prop}, wpO (rec 3 x1 M) K → CMi E (d - 1) yX12_part cX12_part 4 (some .int) [.ref 36, .int x1] M (fun r N => K (r, N))) (hd : 1 ≤ d) (x1 : Int32) (hx : ∀ (x2_82 : Int32) (M_82 : zM), K1 (x2_82, M_82) → G E Γ 5 82 [(2, .int x2_82)] [] M_82) :
    ∀ (n : Nat) (x2 : Int32) (M : zM), wpO (fX12_sum_L6 rec x1 n x2 M) K1 → G E Γ 5 6 [(0, .ref 36), (1, .int x1), (2, .int x2)] [] M := by
  intro n
  induction n with
  | zero =>
    intro x2 M h
    exact (wpO_0 h).elim
  | succ n ih =>
    intro x2 M h
    rw [fX12_sum_L6.eq_2] at h
    refine g_aload_n (i := 0) (x := 36) hC (dX12_sum_6) rfl rfl ?_
    refine g_callVi ([]) hC wvX12_124 (dX12_sum_7) rfl rfl (by omega) (Nat.le_of_ble_eq_true rfl) (cX12_fine_ok (by omega) M (K := fun r => r = fX12_fine M) rfl) (fun r N q => ?_)
    obtain ⟨rfl, rfl⟩ := q
    refine g_if_eq (tgt := 82) hC (dX12_sum_10) (by decide) (fun c10 => ?_) (fun c10 => ?_)
    · have h := wpO_t c10 h
      refine g_sub (lv' := [(2, .int x2)]) [2] rfl ?_
      exact hx _ _ (wpO_s h)
    · have h := wpO_f c10 h
      refine g_aload_n (i := 0) (x := 36) hC (dX12_sum_13) rfl rfl ?_
      have h := wpO_b h
      refine g_callVi ([]) hC wvX12_128 (dX12_sum_14) rfl rfl (by omega) (Nat.le_of_ble_eq_true rfl) (cX12_here_ok (by omega) M h) (fun r3 N q => ?_)
      obtain ⟨rfl, h⟩ := q
      refine g_bipush (v := 43) hC (dX12_sum_17) kb_43 ?_
      refine wpO_j h (fun J4 hkJ4 h => ?_)
      have hJ4 : ∀ (_ : Unit), wpO (J4 ()) K1 → G E Γ 5 31 [(0, .ref 36), (1, .int x1), (2, .int x2)] [] M := by
        intro _ h
        have h := hkJ4 _ h
        refine g_aload_n (i := 0) (x := 36) hC (dX12_sum_31) rfl rfl ?_
        have h := wpO_b h
        refine g_callVi ([]) hC wvX12_128 (dX12_sum_32) rfl rfl (by omega) (Nat.le_of_ble_eq_true rfl) (cX12_here_ok (by omega) M h) (fun r6 N q => ?_)
        obtain ⟨rfl, h⟩ := q
        refine g_bipush (v := 43) hC (dX12_sum_35) kb_43 ?_
        obtain ⟨s0_45, e_s0_45, h⟩ := wpO_l h
        have hJ7 : G E Γ 5 45 [(0, .ref 36), (1, .int x1), (2, .int x2)] [.int s0_45] M := by
          refine g_istore_n (i := 3) (lv2 := [(3, .int s0_45), (0, .ref 36), (1, .int x1), (2, .int x2)]) hC (dX12_sum_45) rfl (by decide) rfl ?_
          refine g_aload_n (i := 0) (x := 36) hC (dX12_sum_46) rfl rfl ?_
          refine g_dup hC (dX12_sum_47) rfl ?_
          refine g_getI hC flX12_114 (dX12_sum_48) rfl rfl ?_
          refine g_iconst (v := 1) hC (dX12_sum_51) kc_1 ?_
          refine g_iadd hC (dX12_sum_52) ?_
          refine g_putI hC fpX12_114 (dX12_sum_53) rfl rfl rfl rfl ?_
          refine g_nmM (fun M53 e_M53 => ?_)
          have h := wpO_n e_M53 h
          refine g_aload_n (i := 0) (x := 36) hC (dX12_sum_56) rfl rfl ?_
          refine g_iload_n (i := 1) (x := x1) hC (dX12_sum_57) rfl rfl ?_
          have h := wpO_b h
          refine g_callVi ([.int x1]) hC wvX12_167 (dX12_sum_58) rfl rfl (by omega) (Nat.le_of_ble_eq_true rfl) (hrec2 x1 M53 h) (fun r8 M58 h => ?_)
          have h := wpO_p h
          refine g_istore (i := 4) (lv2 := [(4, .int r8), (3, .int s0_45), (0, .ref 36), (1, .int x1), (2, .int x2)]) hC (dX12_sum_61) (by decide) rfl ?_
          refine g_iload_n (i := 3) (x := s0_45) hC (dX12_sum_63) rfl rfl ?_
          obtain ⟨s0_78, e_s0_78, h⟩ := wpO_l h
          have hJ9 : G E Γ 5 78 [(0, .ref 36), (1, .int x1)] [.int s0_78] M58 := by
            refine g_istore_n (i := 2) (lv2 := [(2, .int s0_78), (0, .ref 36), (1, .int x1)]) hC (dX12_sum_78) rfl (by decide) rfl ?_
            refine g_goto (tgt := 6) hC (dX12_sum_79) (by decide) ?_
            refine g_sub (lv' := [(0, .ref 36), (1, .int x1), (2, .int s0_78)]) [1, 2, 0] rfl ?_
            exact ih _ _ h
          refine g_if_eq (tgt := 74) hC (dX12_sum_64) (by decide) (fun c64 => ?_) (fun c64 => ?_)
          · rw [if_pos c64] at e_s0_78
            refine g_iload_n (i := 2) (x := x2) hC (dX12_sum_74) rfl rfl ?_
            refine g_iload (i := 4) (x := r8) hC (dX12_sum_75) rfl ?_
            refine g_isub hC (dX12_sum_77) ?_
            refine g_sub (lv' := [(0, .ref 36), (1, .int x1)]) [2, 3] rfl ?_
            subst e_s0_78
            exact hJ9
          · rw [if_neg c64] at e_s0_78
            refine g_iload_n (i := 2) (x := x2) hC (dX12_sum_67) rfl rfl ?_
            refine g_iload (i := 4) (x := r8) hC (dX12_sum_68) rfl ?_
            refine g_iadd hC (dX12_sum_70) ?_
            refine g_goto (tgt := 78) hC (dX12_sum_71) (by decide) ?_
            refine g_sub (lv' := [(0, .ref 36), (1, .int x1)]) [2, 3] rfl ?_
            subst e_s0_78
            exact hJ9
        refine g_icmp_ne (tgt := 44) hC (dX12_sum_37) (by decide) (fun c37 => ?_) (fun c37 => ?_)
        · rw [if_neg c37] at e_s0_45
          refine g_iconst (v := 0) hC (dX12_sum_44) kc_0 ?_
          subst e_s0_45
          exact hJ7
        · rw [if_pos c37] at e_s0_45
          refine g_iconst (v := 1) hC (dX12_sum_40) kc_1 ?_
          refine g_goto (tgt := 45) hC (dX12_sum_41) (by decide) ?_
          subst e_s0_45
          exact hJ7
      refine g_icmp_eq (tgt := 31) hC (dX12_sum_19) (by decide) (fun c19 => ?_) (fun c19 => ?_)
      · have h := wpO_t c19 h
        exact hJ4 () h
      · have h := wpO_f c19 h
        refine g_aload_n (i := 0) (x := 36) hC (dX12_sum_22) rfl rfl ?_
        have h := wpO_b h
        refine g_callVi ([]) hC wvX12_128 (dX12_sum_23) rfl rfl (by omega) (Nat.le_of_ble_eq_true rfl) (cX12_here_ok (by omega) M h) (fun r5 N q => ?_)
        obtain ⟨rfl, h⟩ := q
        refine g_bipush (v := 45) hC (dX12_sum_26) kb_45 ?_
        refine g_icmp_ne (tgt := 82) hC (dX12_sum_28) (by decide) (fun c28 => ?_) (fun c28 => ?_)
        · have h := wpO_f c28 h
          refine g_sub (lv' := [(2, .int x2)]) [2] rfl ?_
          exact hx _ _ (wpO_s h)
        · have h := wpO_t c28 h
          exact hJ4 () h
set_option maxHeartbeats 4000000 in
theorem cX12_sum_ok {E : zE} {d : Nat} (hd : 1 ≤ d) {rec : Nat → Int32 → zM → Option (Int32 × zM)} (hrec0 : ∀ (x1 : Int32) (M : zM) {K : (Int32 × zM) → Prop}, wpO (rec 0 x1 M) K → CMi E (d - 1) yX12_held cX12_held 3 (some .int) [.ref 36, .int x1] M (fun r N => K (r, N))) (hrec1 : ∀ (x1 : Int32) (M : zM) {K : (Int32 × zM) → Prop}, wpO (rec 1 x1 M) K → CMi E (d - 1) yX12_sum cX12_sum 5 (some .int) [.ref 36, .int x1] M (fun r N => K (r, N))) (hrec2 : ∀ (x1 : Int32) (M : zM) {K : (Int32 × zM) → Prop}, wpO (rec 2 x1 M) K → CMi E (d - 1) yX12_product cX12_product 5 (some .int) [.ref 36, .int x1] M (fun r N => K (r, N))) (hrec3 : ∀ (x1 : Int32) (M : zM) {K : (Int32 × zM) → Prop}, wpO (rec 3 x1 M) K → CMi E (d - 1) yX12_part cX12_part 4 (some .int) [.ref 36, .int x1] M (fun r N => K (r, N))) (x1 : Int32) (M : zM) {K : (Int32 × zM) → Prop} (h : wpO (fX12_sum rec x1 M) K) : CMi E d yX12_sum cX12_sum 5 (some .int) [.ref 36, .int x1] M (fun r N => K (r, N)) := by
  refine CMi.of (by decide) (Nat.le_of_ble_eq_true rfl) (fun Γ hC hr => ?_)
  have hC : Cx E Γ RX12 cX12_sum 5 d := hC
  show G E Γ 5 0 [(0, .ref 36), (1, .int x1)] [] M
  unfold fX12_sum at h
  refine g_aload_n (i := 0) (x := 36) hC (dX12_sum_0) rfl rfl ?_
  refine g_iload_n (i := 1) (x := x1) hC (dX12_sum_1) rfl rfl ?_
  have h := wpO_b h
  refine g_callVi ([.int x1]) hC wvX12_167 (dX12_sum_2) rfl rfl (by omega) (Nat.le_of_ble_eq_true rfl) (hrec2 x1 M h) (fun r1 M2 h => ?_)
  have h := wpO_p h
  refine g_istore_n (i := 2) (lv2 := [(2, .int r1), (0, .ref 36), (1, .int x1)]) hC (dX12_sum_5) rfl (by decide) rfl ?_
  refine g_sub (lv' := [(0, .ref 36), (1, .int x1), (2, .int r1)]) [1, 2, 0] rfl ?_
  refine wpO_bJ h (fun KL6 hKL6 h => ?_)
  refine lX12_sum_6 (K1 := KL6) hC hrec0 hrec1 hrec2 hrec3 (by omega) x1 (fun x2_82 M_82 h => ?_) _ _ _ h
  have h := hKL6 _ h
  have h := wpO_p h
  refine g_iload_n (i := 2) (x := x2_82) hC (dX12_sum_82) rfl rfl ?_
  refine g_ireturn hC hr (dX12_sum_83) ?_
  exact wpO_s h
/-! LostByStateModel.product(I)I -/
theorem dX12_product_0 : decode cX12_product 0 = .ok (.aload_n 0, 1) := by decide +kernel
theorem dX12_product_1 : decode cX12_product 1 = .ok (.iload_n 1, 1) := by decide +kernel
theorem dX12_product_2 : decode cX12_product 2 = .ok (.invokevirtual 170, 3) := by decide +kernel
theorem dX12_product_5 : decode cX12_product 5 = .ok (.istore_n 2, 1) := by decide +kernel
theorem dX12_product_6 : decode cX12_product 6 = .ok (.aload_n 0, 1) := by decide +kernel
theorem dX12_product_7 : decode cX12_product 7 = .ok (.invokevirtual 124, 3) := by decide +kernel
theorem dX12_product_10 : decode cX12_product 10 = .ok (.ifCond .eq 81, 3) := by decide +kernel
theorem dX12_product_13 : decode cX12_product 13 = .ok (.aload_n 0, 1) := by decide +kernel
theorem dX12_product_14 : decode cX12_product 14 = .ok (.invokevirtual 128, 3) := by decide +kernel
theorem dX12_product_17 : decode cX12_product 17 = .ok (.bipush 42, 2) := by decide +kernel
theorem dX12_product_19 : decode cX12_product 19 = .ok (.if_icmp .eq 12, 3) := by decide +kernel
theorem dX12_product_22 : decode cX12_product 22 = .ok (.aload_n 0, 1) := by decide +kernel
theorem dX12_product_23 : decode cX12_product 23 = .ok (.invokevirtual 128, 3) := by decide +kernel
theorem dX12_product_26 : decode cX12_product 26 = .ok (.bipush 47, 2) := by decide +kernel
theorem dX12_product_28 : decode cX12_product 28 = .ok (.if_icmp .ne 63, 3) := by decide +kernel
theorem dX12_product_31 : decode cX12_product 31 = .ok (.aload_n 0, 1) := by decide +kernel
theorem dX12_product_32 : decode cX12_product 32 = .ok (.invokevirtual 128, 3) := by decide +kernel
theorem dX12_product_35 : decode cX12_product 35 = .ok (.bipush 42, 2) := by decide +kernel
theorem dX12_product_37 : decode cX12_product 37 = .ok (.if_icmp .ne 7, 3) := by decide +kernel
theorem dX12_product_40 : decode cX12_product 40 = .ok (.iconst 1, 1) := by decide +kernel
theorem dX12_product_41 : decode cX12_product 41 = .ok (.goto 4, 3) := by decide +kernel
theorem dX12_product_44 : decode cX12_product 44 = .ok (.iconst 0, 1) := by decide +kernel
theorem dX12_product_45 : decode cX12_product 45 = .ok (.istore_n 3, 1) := by decide +kernel
theorem dX12_product_46 : decode cX12_product 46 = .ok (.aload_n 0, 1) := by decide +kernel
theorem dX12_product_47 : decode cX12_product 47 = .ok (.dup, 1) := by decide +kernel
theorem dX12_product_48 : decode cX12_product 48 = .ok (.getfield 114, 3) := by decide +kernel
theorem dX12_product_51 : decode cX12_product 51 = .ok (.iconst 1, 1) := by decide +kernel
theorem dX12_product_52 : decode cX12_product 52 = .ok (.iadd, 1) := by decide +kernel
theorem dX12_product_53 : decode cX12_product 53 = .ok (.putfield 114, 3) := by decide +kernel
theorem dX12_product_56 : decode cX12_product 56 = .ok (.aload_n 0, 1) := by decide +kernel
theorem dX12_product_57 : decode cX12_product 57 = .ok (.iload_n 1, 1) := by decide +kernel
theorem dX12_product_58 : decode cX12_product 58 = .ok (.invokevirtual 170, 3) := by decide +kernel
theorem dX12_product_61 : decode cX12_product 61 = .ok (.istore 4, 2) := by decide +kernel
theorem dX12_product_63 : decode cX12_product 63 = .ok (.iload_n 3, 1) := by decide +kernel
theorem dX12_product_64 : decode cX12_product 64 = .ok (.ifCond .eq 10, 3) := by decide +kernel
theorem dX12_product_67 : decode cX12_product 67 = .ok (.iload_n 2, 1) := by decide +kernel
theorem dX12_product_68 : decode cX12_product 68 = .ok (.iload 4, 2) := by decide +kernel
theorem dX12_product_70 : decode cX12_product 70 = .ok (.imul, 1) := by decide +kernel
theorem dX12_product_71 : decode cX12_product 71 = .ok (.goto 16, 3) := by decide +kernel
theorem dX12_product_74 : decode cX12_product 74 = .ok (.iload 4, 2) := by decide +kernel
theorem dX12_product_76 : decode cX12_product 76 = .ok (.ifCond .ne 7, 3) := by decide +kernel
theorem dX12_product_79 : decode cX12_product 79 = .ok (.iconst 0, 1) := by decide +kernel
theorem dX12_product_80 : decode cX12_product 80 = .ok (.goto 7, 3) := by decide +kernel
theorem dX12_product_83 : decode cX12_product 83 = .ok (.iload_n 2, 1) := by decide +kernel
theorem dX12_product_84 : decode cX12_product 84 = .ok (.iload 4, 2) := by decide +kernel
theorem dX12_product_86 : decode cX12_product 86 = .ok (.idiv, 1) := by decide +kernel
theorem dX12_product_87 : decode cX12_product 87 = .ok (.istore_n 2, 1) := by decide +kernel
theorem dX12_product_88 : decode cX12_product 88 = .ok (.goto (-82), 3) := by decide +kernel
theorem dX12_product_91 : decode cX12_product 91 = .ok (.iload_n 2, 1) := by decide +kernel
theorem dX12_product_92 : decode cX12_product 92 = .ok (.ireturn, 1) := by decide +kernel
def fX12_product_L6 (rec : Nat → Int32 → zM → Option (Int32 × zM)) (x1 : Int32) : Nat → Int32 → zM → Option (Int32 × zM)
  | 0, _, _ => none
  | n + 1, x2, M => if (fX12_fine M) = 0 then (
    some (x2, M))
    else (
    (fX12_here M).bind fun (r3 : Int32) =>
    zj (fun (_ : Unit) =>
    (fX12_here M).bind fun (r6 : Int32) =>
    zlet (if r6 = 42 then (
    1)
    else (
    0)) fun (s0_45 : Int32) =>
    zlet (zSI M 36 16 ((M.1 36 16) + 1)) fun (M53 : zM) =>
    (rec 3 x1 M53).bind fun (q : Int32 × zM) => zp q fun r8 M58 =>
    (if s0_45 = 0 then (
    if r8 = 0 then (
    some 0)
    else (
    if ¬ r8 = 0 then (
    some (x2 / r8)) else none))
    else (
    some (x2 * r8)) : Option Int32).bind fun (s0_87 : Int32) =>
    fX12_product_L6 rec x1 n s0_87 M58)
    fun J4 =>
    if r3 = 42 then (
    J4 ())
    else (
    (fX12_here M).bind fun (r5 : Int32) =>
    if r5 = 47 then (
    J4 ())
    else (
    some (x2, M))))
def fX12_product (rec : Nat → Int32 → zM → Option (Int32 × zM)) (x1 : Int32) (M : zM) : Option (Int32 × zM) := (rec 3 x1 M).bind fun (q : Int32 × zM) => zp q fun r1 M2 =>
  (fX12_product_L6 rec x1 4000 r1 M2).bind fun (q : Int32 × zM) => zp q fun x2_91 M_91 =>
  some (x2_91, M_91)
set_option maxHeartbeats 4000000 in
theorem lX12_product_6 {E : zE} {Γ : zT} {d : Nat} {K1 : (Int32 × zM) → Prop} (hC : Cx E Γ RX12 cX12_product 5 d) {rec : Nat → Int32 → zM → Option (Int32 × zM)} (hrec0 : ∀ (x1 : Int32) (M : zM) {K : (Int32 × zM) → Prop}, wpO (rec 0 x1 M) K → CMi E (d - 1) yX12_held cX12_held 3 (some .int) [.ref 36, .int x1] M (fun r N => K (r, N))) (hrec1 : ∀ (x1 : Int32) (M : zM) {K : (Int32 × zM) → Prop}, wpO (rec 1 x1 M) K → CMi E (d - 1) yX12_sum cX12_sum 5 (some .int) [.ref 36, .int x1] M (fun r N => K (r, N))) (hrec2 : ∀ (x1 : Int32) (M : zM) {K : (Int32 × zM) → Prop}, wpO (rec 2 x1 M) K → CMi E (d - 1) yX12_product cX12_product 5 (some .int) [.ref 36, .int x1] M (fun r N => K (r, N))) (hrec3 : ∀ (x1 : Int32) (M : zM) {K : (Int32 × zM) → Prop}, wpO (rec 3 x1 M) K → CMi E (d - 1) yX12_part cX12_part 4 (some .int) [.ref 36, .int x1] M (fun r N => K (r, N))) (hd : 1 ≤ d) (x1 : Int32) (hx : ∀ (x2_91 : Int32) (M_91 : zM), K1 (x2_91, M_91) → G E Γ 5 91 [(2, .int x2_91)] [] M_91) :
    ∀ (n : Nat) (x2 : Int32) (M : zM), wpO (fX12_product_L6 rec x1 n x2 M) K1 → G E Γ 5 6 [(0, .ref 36), (1, .int x1), (2, .int x2)] [] M := by
  intro n
  induction n with
  | zero =>
    intro x2 M h
    exact (wpO_0 h).elim
  | succ n ih =>
    intro x2 M h
    rw [fX12_product_L6.eq_2] at h
    refine g_aload_n (i := 0) (x := 36) hC (dX12_product_6) rfl rfl ?_
    refine g_callVi ([]) hC wvX12_124 (dX12_product_7) rfl rfl (by omega) (Nat.le_of_ble_eq_true rfl) (cX12_fine_ok (by omega) M (K := fun r => r = fX12_fine M) rfl) (fun r N q => ?_)
    obtain ⟨rfl, rfl⟩ := q
    refine g_if_eq (tgt := 91) hC (dX12_product_10) (by decide) (fun c10 => ?_) (fun c10 => ?_)
    · have h := wpO_t c10 h
      refine g_sub (lv' := [(2, .int x2)]) [2] rfl ?_
      exact hx _ _ (wpO_s h)
    · have h := wpO_f c10 h
      refine g_aload_n (i := 0) (x := 36) hC (dX12_product_13) rfl rfl ?_
      have h := wpO_b h
      refine g_callVi ([]) hC wvX12_128 (dX12_product_14) rfl rfl (by omega) (Nat.le_of_ble_eq_true rfl) (cX12_here_ok (by omega) M h) (fun r3 N q => ?_)
      obtain ⟨rfl, h⟩ := q
      refine g_bipush (v := 42) hC (dX12_product_17) kb_42 ?_
      refine wpO_j h (fun J4 hkJ4 h => ?_)
      have hJ4 : ∀ (_ : Unit), wpO (J4 ()) K1 → G E Γ 5 31 [(0, .ref 36), (1, .int x1), (2, .int x2)] [] M := by
        intro _ h
        have h := hkJ4 _ h
        refine g_aload_n (i := 0) (x := 36) hC (dX12_product_31) rfl rfl ?_
        have h := wpO_b h
        refine g_callVi ([]) hC wvX12_128 (dX12_product_32) rfl rfl (by omega) (Nat.le_of_ble_eq_true rfl) (cX12_here_ok (by omega) M h) (fun r6 N q => ?_)
        obtain ⟨rfl, h⟩ := q
        refine g_bipush (v := 42) hC (dX12_product_35) kb_42 ?_
        obtain ⟨s0_45, e_s0_45, h⟩ := wpO_l h
        have hJ7 : G E Γ 5 45 [(0, .ref 36), (1, .int x1), (2, .int x2)] [.int s0_45] M := by
          refine g_istore_n (i := 3) (lv2 := [(3, .int s0_45), (0, .ref 36), (1, .int x1), (2, .int x2)]) hC (dX12_product_45) rfl (by decide) rfl ?_
          refine g_aload_n (i := 0) (x := 36) hC (dX12_product_46) rfl rfl ?_
          refine g_dup hC (dX12_product_47) rfl ?_
          refine g_getI hC flX12_114 (dX12_product_48) rfl rfl ?_
          refine g_iconst (v := 1) hC (dX12_product_51) kc_1 ?_
          refine g_iadd hC (dX12_product_52) ?_
          refine g_putI hC fpX12_114 (dX12_product_53) rfl rfl rfl rfl ?_
          refine g_nmM (fun M53 e_M53 => ?_)
          have h := wpO_n e_M53 h
          refine g_aload_n (i := 0) (x := 36) hC (dX12_product_56) rfl rfl ?_
          refine g_iload_n (i := 1) (x := x1) hC (dX12_product_57) rfl rfl ?_
          have h := wpO_b h
          refine g_callVi ([.int x1]) hC wvX12_170 (dX12_product_58) rfl rfl (by omega) (Nat.le_of_ble_eq_true rfl) (hrec3 x1 M53 h) (fun r8 M58 h => ?_)
          have h := wpO_p h
          refine g_istore (i := 4) (lv2 := [(4, .int r8), (3, .int s0_45), (0, .ref 36), (1, .int x1), (2, .int x2)]) hC (dX12_product_61) (by decide) rfl ?_
          refine g_iload_n (i := 3) (x := s0_45) hC (dX12_product_63) rfl rfl ?_
          refine wpO_bJ h (fun KJ9 hKJ9 h => ?_)
          have hJ9 : ∀ (s0_87 : Int32), KJ9 s0_87 → G E Γ 5 87 [(0, .ref 36), (1, .int x1)] [.int s0_87] M58 := by
            intro s0_87 h
            have h := hKJ9 _ h
            refine g_istore_n (i := 2) (lv2 := [(2, .int s0_87), (0, .ref 36), (1, .int x1)]) hC (dX12_product_87) rfl (by decide) rfl ?_
            refine g_goto (tgt := 6) hC (dX12_product_88) (by decide) ?_
            refine g_sub (lv' := [(0, .ref 36), (1, .int x1), (2, .int s0_87)]) [1, 2, 0] rfl ?_
            exact ih _ _ h
          refine g_if_eq (tgt := 74) hC (dX12_product_64) (by decide) (fun c64 => ?_) (fun c64 => ?_)
          · have h := wpO_t c64 h
            refine g_iload (i := 4) (x := r8) hC (dX12_product_74) rfl ?_
            refine g_if_ne (tgt := 83) hC (dX12_product_76) (by decide) (fun c76 => ?_) (fun c76 => ?_)
            · have h := wpO_f c76 h
              refine g_iload_n (i := 2) (x := x2) hC (dX12_product_83) rfl rfl ?_
              refine g_iload (i := 4) (x := r8) hC (dX12_product_84) rfl ?_
              obtain ⟨q10, h⟩ := wpO_g h
              refine g_idiv hC (dX12_product_86) q10 ?_
              refine g_sub (lv' := [(0, .ref 36), (1, .int x1)]) [2, 3] rfl ?_
              exact hJ9 _ (wpO_s h)
            · have h := wpO_t c76 h
              refine g_iconst (v := 0) hC (dX12_product_79) kc_0 ?_
              refine g_goto (tgt := 87) hC (dX12_product_80) (by decide) ?_
              refine g_sub (lv' := [(0, .ref 36), (1, .int x1)]) [2, 3] rfl ?_
              exact hJ9 _ (wpO_s h)
          · have h := wpO_f c64 h
            refine g_iload_n (i := 2) (x := x2) hC (dX12_product_67) rfl rfl ?_
            refine g_iload (i := 4) (x := r8) hC (dX12_product_68) rfl ?_
            refine g_imul hC (dX12_product_70) ?_
            refine g_goto (tgt := 87) hC (dX12_product_71) (by decide) ?_
            refine g_sub (lv' := [(0, .ref 36), (1, .int x1)]) [2, 3] rfl ?_
            exact hJ9 _ (wpO_s h)
        refine g_icmp_ne (tgt := 44) hC (dX12_product_37) (by decide) (fun c37 => ?_) (fun c37 => ?_)
        · rw [if_neg c37] at e_s0_45
          refine g_iconst (v := 0) hC (dX12_product_44) kc_0 ?_
          subst e_s0_45
          exact hJ7
        · rw [if_pos c37] at e_s0_45
          refine g_iconst (v := 1) hC (dX12_product_40) kc_1 ?_
          refine g_goto (tgt := 45) hC (dX12_product_41) (by decide) ?_
          subst e_s0_45
          exact hJ7
      refine g_icmp_eq (tgt := 31) hC (dX12_product_19) (by decide) (fun c19 => ?_) (fun c19 => ?_)
      · have h := wpO_t c19 h
        exact hJ4 () h
      · have h := wpO_f c19 h
        refine g_aload_n (i := 0) (x := 36) hC (dX12_product_22) rfl rfl ?_
        have h := wpO_b h
        refine g_callVi ([]) hC wvX12_128 (dX12_product_23) rfl rfl (by omega) (Nat.le_of_ble_eq_true rfl) (cX12_here_ok (by omega) M h) (fun r5 N q => ?_)
        obtain ⟨rfl, h⟩ := q
        refine g_bipush (v := 47) hC (dX12_product_26) kb_47 ?_
        refine g_icmp_ne (tgt := 91) hC (dX12_product_28) (by decide) (fun c28 => ?_) (fun c28 => ?_)
        · have h := wpO_f c28 h
          refine g_sub (lv' := [(2, .int x2)]) [2] rfl ?_
          exact hx _ _ (wpO_s h)
        · have h := wpO_t c28 h
          exact hJ4 () h
set_option maxHeartbeats 4000000 in
theorem cX12_product_ok {E : zE} {d : Nat} (hd : 1 ≤ d) {rec : Nat → Int32 → zM → Option (Int32 × zM)} (hrec0 : ∀ (x1 : Int32) (M : zM) {K : (Int32 × zM) → Prop}, wpO (rec 0 x1 M) K → CMi E (d - 1) yX12_held cX12_held 3 (some .int) [.ref 36, .int x1] M (fun r N => K (r, N))) (hrec1 : ∀ (x1 : Int32) (M : zM) {K : (Int32 × zM) → Prop}, wpO (rec 1 x1 M) K → CMi E (d - 1) yX12_sum cX12_sum 5 (some .int) [.ref 36, .int x1] M (fun r N => K (r, N))) (hrec2 : ∀ (x1 : Int32) (M : zM) {K : (Int32 × zM) → Prop}, wpO (rec 2 x1 M) K → CMi E (d - 1) yX12_product cX12_product 5 (some .int) [.ref 36, .int x1] M (fun r N => K (r, N))) (hrec3 : ∀ (x1 : Int32) (M : zM) {K : (Int32 × zM) → Prop}, wpO (rec 3 x1 M) K → CMi E (d - 1) yX12_part cX12_part 4 (some .int) [.ref 36, .int x1] M (fun r N => K (r, N))) (x1 : Int32) (M : zM) {K : (Int32 × zM) → Prop} (h : wpO (fX12_product rec x1 M) K) : CMi E d yX12_product cX12_product 5 (some .int) [.ref 36, .int x1] M (fun r N => K (r, N)) := by
  refine CMi.of (by decide) (Nat.le_of_ble_eq_true rfl) (fun Γ hC hr => ?_)
  have hC : Cx E Γ RX12 cX12_product 5 d := hC
  show G E Γ 5 0 [(0, .ref 36), (1, .int x1)] [] M
  unfold fX12_product at h
  refine g_aload_n (i := 0) (x := 36) hC (dX12_product_0) rfl rfl ?_
  refine g_iload_n (i := 1) (x := x1) hC (dX12_product_1) rfl rfl ?_
  have h := wpO_b h
  refine g_callVi ([.int x1]) hC wvX12_170 (dX12_product_2) rfl rfl (by omega) (Nat.le_of_ble_eq_true rfl) (hrec3 x1 M h) (fun r1 M2 h => ?_)
  have h := wpO_p h
  refine g_istore_n (i := 2) (lv2 := [(2, .int r1), (0, .ref 36), (1, .int x1)]) hC (dX12_product_5) rfl (by decide) rfl ?_
  refine g_sub (lv' := [(0, .ref 36), (1, .int x1), (2, .int r1)]) [1, 2, 0] rfl ?_
  refine wpO_bJ h (fun KL6 hKL6 h => ?_)
  refine lX12_product_6 (K1 := KL6) hC hrec0 hrec1 hrec2 hrec3 (by omega) x1 (fun x2_91 M_91 h => ?_) _ _ _ h
  have h := hKL6 _ h
  have h := wpO_p h
  refine g_iload_n (i := 2) (x := x2_91) hC (dX12_product_91) rfl rfl ?_
  refine g_ireturn hC hr (dX12_product_92) ?_
  exact wpO_s h
/-! LostByStateModel.part(I)I -/
theorem dX12_part_0 : decode cX12_part 0 = .ok (.aload_n 0, 1) := by decide +kernel
theorem dX12_part_1 : decode cX12_part 1 = .ok (.bipush 45, 2) := by decide +kernel
theorem dX12_part_3 : decode cX12_part 3 = .ok (.invokevirtual 132, 3) := by decide +kernel
theorem dX12_part_6 : decode cX12_part 6 = .ok (.ifCond .eq 10, 3) := by decide +kernel
theorem dX12_part_9 : decode cX12_part 9 = .ok (.aload_n 0, 1) := by decide +kernel
theorem dX12_part_10 : decode cX12_part 10 = .ok (.iload_n 1, 1) := by decide +kernel
theorem dX12_part_11 : decode cX12_part 11 = .ok (.invokevirtual 170, 3) := by decide +kernel
theorem dX12_part_14 : decode cX12_part 14 = .ok (.ineg, 1) := by decide +kernel
theorem dX12_part_15 : decode cX12_part 15 = .ok (.ireturn, 1) := by decide +kernel
theorem dX12_part_16 : decode cX12_part 16 = .ok (.aload_n 0, 1) := by decide +kernel
theorem dX12_part_17 : decode cX12_part 17 = .ok (.invokevirtual 124, 3) := by decide +kernel
theorem dX12_part_20 : decode cX12_part 20 = .ok (.ifCond .ne 5, 3) := by decide +kernel
theorem dX12_part_23 : decode cX12_part 23 = .ok (.iconst 0, 1) := by decide +kernel
theorem dX12_part_24 : decode cX12_part 24 = .ok (.ireturn, 1) := by decide +kernel
theorem dX12_part_25 : decode cX12_part 25 = .ok (.aload_n 0, 1) := by decide +kernel
theorem dX12_part_26 : decode cX12_part 26 = .ok (.invokevirtual 128, 3) := by decide +kernel
theorem dX12_part_29 : decode cX12_part 29 = .ok (.istore_n 2, 1) := by decide +kernel
theorem dX12_part_30 : decode cX12_part 30 = .ok (.iload_n 2, 1) := by decide +kernel
theorem dX12_part_31 : decode cX12_part 31 = .ok (.bipush 40, 2) := by decide +kernel
theorem dX12_part_33 : decode cX12_part 33 = .ok (.if_icmp .ne 34, 3) := by decide +kernel
theorem dX12_part_36 : decode cX12_part 36 = .ok (.iload_n 1, 1) := by decide +kernel
theorem dX12_part_37 : decode cX12_part 37 = .ok (.iconst 4, 1) := by decide +kernel
theorem dX12_part_38 : decode cX12_part 38 = .ok (.if_icmp .ge 29, 3) := by decide +kernel
theorem dX12_part_41 : decode cX12_part 41 = .ok (.aload_n 0, 1) := by decide +kernel
theorem dX12_part_42 : decode cX12_part 42 = .ok (.dup, 1) := by decide +kernel
theorem dX12_part_43 : decode cX12_part 43 = .ok (.getfield 114, 3) := by decide +kernel
theorem dX12_part_46 : decode cX12_part 46 = .ok (.iconst 1, 1) := by decide +kernel
theorem dX12_part_47 : decode cX12_part 47 = .ok (.iadd, 1) := by decide +kernel
theorem dX12_part_48 : decode cX12_part 48 = .ok (.putfield 114, 3) := by decide +kernel
theorem dX12_part_51 : decode cX12_part 51 = .ok (.aload_n 0, 1) := by decide +kernel
theorem dX12_part_52 : decode cX12_part 52 = .ok (.iload_n 1, 1) := by decide +kernel
theorem dX12_part_53 : decode cX12_part 53 = .ok (.iconst 1, 1) := by decide +kernel
theorem dX12_part_54 : decode cX12_part 54 = .ok (.iadd, 1) := by decide +kernel
theorem dX12_part_55 : decode cX12_part 55 = .ok (.invokevirtual 173, 3) := by decide +kernel
theorem dX12_part_58 : decode cX12_part 58 = .ok (.istore_n 3, 1) := by decide +kernel
theorem dX12_part_59 : decode cX12_part 59 = .ok (.aload_n 0, 1) := by decide +kernel
theorem dX12_part_60 : decode cX12_part 60 = .ok (.bipush 41, 2) := by decide +kernel
theorem dX12_part_62 : decode cX12_part 62 = .ok (.invokevirtual 176, 3) := by decide +kernel
theorem dX12_part_65 : decode cX12_part 65 = .ok (.iload_n 3, 1) := by decide +kernel
theorem dX12_part_66 : decode cX12_part 66 = .ok (.ireturn, 1) := by decide +kernel
theorem dX12_part_67 : decode cX12_part 67 = .ok (.iload_n 2, 1) := by decide +kernel
theorem dX12_part_68 : decode cX12_part 68 = .ok (.bipush 48, 2) := by decide +kernel
theorem dX12_part_70 : decode cX12_part 70 = .ok (.bipush 57, 2) := by decide +kernel
theorem dX12_part_72 : decode cX12_part 72 = .ok (.invokestatic 95, 3) := by decide +kernel
theorem dX12_part_75 : decode cX12_part 75 = .ok (.ifCond .eq 9, 3) := by decide +kernel
theorem dX12_part_78 : decode cX12_part 78 = .ok (.aload_n 0, 1) := by decide +kernel
theorem dX12_part_79 : decode cX12_part 79 = .ok (.iconst 3, 1) := by decide +kernel
theorem dX12_part_80 : decode cX12_part 80 = .ok (.invokevirtual 180, 3) := by decide +kernel
theorem dX12_part_83 : decode cX12_part 83 = .ok (.ireturn, 1) := by decide +kernel
theorem dX12_part_84 : decode cX12_part 84 = .ok (.iload_n 2, 1) := by decide +kernel
theorem dX12_part_85 : decode cX12_part 85 = .ok (.invokestatic 183, 3) := by decide +kernel
theorem dX12_part_88 : decode cX12_part 88 = .ok (.iconst (-1), 1) := by decide +kernel
theorem dX12_part_89 : decode cX12_part 89 = .ok (.if_icmp .ne 13, 3) := by decide +kernel
theorem dX12_part_92 : decode cX12_part 92 = .ok (.aload_n 0, 1) := by decide +kernel
theorem dX12_part_93 : decode cX12_part 93 = .ok (.aload_n 0, 1) := by decide +kernel
theorem dX12_part_94 : decode cX12_part 94 = .ok (.getfield 114, 3) := by decide +kernel
theorem dX12_part_97 : decode cX12_part 97 = .ok (.invokevirtual 136, 3) := by decide +kernel
theorem dX12_part_100 : decode cX12_part 100 = .ok (.iconst 0, 1) := by decide +kernel
theorem dX12_part_101 : decode cX12_part 101 = .ok (.ireturn, 1) := by decide +kernel
theorem dX12_part_102 : decode cX12_part 102 = .ok (.aload_n 0, 1) := by decide +kernel
theorem dX12_part_103 : decode cX12_part 103 = .ok (.dup, 1) := by decide +kernel
theorem dX12_part_104 : decode cX12_part 104 = .ok (.getfield 114, 3) := by decide +kernel
theorem dX12_part_107 : decode cX12_part 107 = .ok (.iconst 1, 1) := by decide +kernel
theorem dX12_part_108 : decode cX12_part 108 = .ok (.iadd, 1) := by decide +kernel
theorem dX12_part_109 : decode cX12_part 109 = .ok (.putfield 114, 3) := by decide +kernel
theorem dX12_part_112 : decode cX12_part 112 = .ok (.aload_n 0, 1) := by decide +kernel
theorem dX12_part_113 : decode cX12_part 113 = .ok (.getfield 186, 3) := by decide +kernel
theorem dX12_part_116 : decode cX12_part 116 = .ok (.ifCond .eq 15, 3) := by decide +kernel
theorem dX12_part_119 : decode cX12_part 119 = .ok (.aload_n 0, 1) := by decide +kernel
theorem dX12_part_120 : decode cX12_part 120 = .ok (.getfield 46, 3) := by decide +kernel
theorem dX12_part_123 : decode cX12_part 123 = .ok (.iload_n 2, 1) := by decide +kernel
theorem dX12_part_124 : decode cX12_part 124 = .ok (.invokestatic 183, 3) := by decide +kernel
theorem dX12_part_127 : decode cX12_part 127 = .ok (.iaload, 1) := by decide +kernel
theorem dX12_part_128 : decode cX12_part 128 = .ok (.goto 4, 3) := by decide +kernel
theorem dX12_part_131 : decode cX12_part 131 = .ok (.iconst 0, 1) := by decide +kernel
theorem dX12_part_132 : decode cX12_part 132 = .ok (.ireturn, 1) := by decide +kernel
def fX12_part (rec : Nat → Int32 → zM → Option (Int32 × zM)) (x1 : Int32) (M : zM) : Option (Int32 × zM) := (fX12_passes 45 M).bind fun (q : Int32 × zM) => zp q fun r1 M3 =>
  if r1 = 0 then (
  if (fX12_fine M3) = 0 then (
  some (0, M3))
  else (
  (fX12_here M3).bind fun (r3 : Int32) =>
  zj (fun (_ : Unit) =>
  if (fX12_in r3 48 57) = 0 then (
  if (fX12_letterOf r3) = (-1) then (
  zlet (fX12_fault (M3.1 36 16) M3) fun (M97 : zM) =>
  some (0, M97))
  else (
  zlet (zSI M3 36 16 ((M3.1 36 16) + 1)) fun (M109 : zM) =>
  if (M109.1 36 22) = 0 then (
  some (0, M109))
  else (
  if zin (fX12_letterOf r3) 6 then (
  some (M109.1 46 (fX12_letterOf r3).toNatClampNeg, M109)) else none)))
  else (
  (fX12_number 3 M3).bind fun (q : Int32 × zM) => zp q fun r12 M80 =>
  some (r12, M80)))
  fun J4 =>
  if r3 = 40 then (
  if 4 ≤ x1 then (
  J4 ())
  else (
  zlet (zSI M3 36 16 ((M3.1 36 16) + 1)) fun (M48 : zM) =>
  (rec 0 (x1 + 1) M48).bind fun (q : Int32 × zM) => zp q fun r5 M55 =>
  (fX12_need 41 M55).bind fun (M62 : zM) =>
  some (r5, M62)))
  else (
  J4 ())))
  else (
  (rec 3 x1 M3).bind fun (q : Int32 × zM) => zp q fun r13 M11 =>
  some (-r13, M11))
set_option maxHeartbeats 4000000 in
theorem cX12_part_ok {E : zE} {d : Nat} (hd : 4 ≤ d) {rec : Nat → Int32 → zM → Option (Int32 × zM)} (hrec0 : ∀ (x1 : Int32) (M : zM) {K : (Int32 × zM) → Prop}, wpO (rec 0 x1 M) K → CMi E (d - 1) yX12_held cX12_held 3 (some .int) [.ref 36, .int x1] M (fun r N => K (r, N))) (hrec1 : ∀ (x1 : Int32) (M : zM) {K : (Int32 × zM) → Prop}, wpO (rec 1 x1 M) K → CMi E (d - 1) yX12_sum cX12_sum 5 (some .int) [.ref 36, .int x1] M (fun r N => K (r, N))) (hrec2 : ∀ (x1 : Int32) (M : zM) {K : (Int32 × zM) → Prop}, wpO (rec 2 x1 M) K → CMi E (d - 1) yX12_product cX12_product 5 (some .int) [.ref 36, .int x1] M (fun r N => K (r, N))) (hrec3 : ∀ (x1 : Int32) (M : zM) {K : (Int32 × zM) → Prop}, wpO (rec 3 x1 M) K → CMi E (d - 1) yX12_part cX12_part 4 (some .int) [.ref 36, .int x1] M (fun r N => K (r, N))) (x1 : Int32) (M : zM) {K : (Int32 × zM) → Prop} (h : wpO (fX12_part rec x1 M) K) : CMi E d yX12_part cX12_part 4 (some .int) [.ref 36, .int x1] M (fun r N => K (r, N)) := by
  refine CMi.of (by decide) (Nat.le_of_ble_eq_true rfl) (fun Γ hC hr => ?_)
  have hC : Cx E Γ RX12 cX12_part 4 d := hC
  show G E Γ 4 0 [(0, .ref 36), (1, .int x1)] [] M
  unfold fX12_part at h
  refine g_aload_n (i := 0) (x := 36) hC (dX12_part_0) rfl rfl ?_
  refine g_bipush (v := 45) hC (dX12_part_1) kb_45 ?_
  have h := wpO_b h
  refine g_callVi ([.int 45]) hC wvX12_132 (dX12_part_3) rfl rfl (by omega) (Nat.le_of_ble_eq_true rfl) (cX12_passes_ok (by omega) 45 M h) (fun r1 M3 h => ?_)
  have h := wpO_p h
  refine g_if_eq (tgt := 16) hC (dX12_part_6) (by decide) (fun c6 => ?_) (fun c6 => ?_)
  · have h := wpO_t c6 h
    refine g_aload_n (i := 0) (x := 36) hC (dX12_part_16) rfl rfl ?_
    refine g_callVi ([]) hC wvX12_124 (dX12_part_17) rfl rfl (by omega) (Nat.le_of_ble_eq_true rfl) (cX12_fine_ok (by omega) M3 (K := fun r => r = fX12_fine M3) rfl) (fun r N q => ?_)
    obtain ⟨rfl, rfl⟩ := q
    refine g_if_ne (tgt := 25) hC (dX12_part_20) (by decide) (fun c20 => ?_) (fun c20 => ?_)
    · have h := wpO_f c20 h
      refine g_aload_n (i := 0) (x := 36) hC (dX12_part_25) rfl rfl ?_
      have h := wpO_b h
      refine g_callVi ([]) hC wvX12_128 (dX12_part_26) rfl rfl (by omega) (Nat.le_of_ble_eq_true rfl) (cX12_here_ok (by omega) M3 h) (fun r3 N q => ?_)
      obtain ⟨rfl, h⟩ := q
      refine g_istore_n (i := 2) (lv2 := [(2, .int r3), (0, .ref 36), (1, .int x1)]) hC (dX12_part_29) rfl (by decide) rfl ?_
      refine g_iload_n (i := 2) (x := r3) hC (dX12_part_30) rfl rfl ?_
      refine g_bipush (v := 40) hC (dX12_part_31) kb_40 ?_
      refine wpO_j h (fun J4 hkJ4 h => ?_)
      have hJ4 : ∀ (_ : Unit), wpO (J4 ()) K → G E Γ 4 67 [(0, .ref 36), (2, .int r3)] [] M3 := by
        intro _ h
        have h := hkJ4 _ h
        refine g_iload_n (i := 2) (x := r3) hC (dX12_part_67) rfl rfl ?_
        refine g_bipush (v := 48) hC (dX12_part_68) kb_48 ?_
        refine g_bipush (v := 57) hC (dX12_part_70) kb_57 ?_
        refine g_callSi ([.int r3, .int 48, .int 57]) hC wsX12_95 (dX12_part_72) rfl (by omega) (Nat.le_of_ble_eq_true rfl) (cX12_in_ok (by omega) r3 48 57 M3 (K := fun r => r = fX12_in r3 48 57) rfl) (fun r N q => ?_)
        obtain ⟨rfl, rfl⟩ := q
        refine g_if_eq (tgt := 84) hC (dX12_part_75) (by decide) (fun c75 => ?_) (fun c75 => ?_)
        · have h := wpO_t c75 h
          refine g_iload_n (i := 2) (x := r3) hC (dX12_part_84) rfl rfl ?_
          refine g_callSi ([.int r3]) hC wsX12_183 (dX12_part_85) rfl (by omega) (Nat.le_of_ble_eq_true rfl) (cX12_letterOf_ok (by omega) r3 M3 (K := fun r => r = fX12_letterOf r3) rfl) (fun r N q => ?_)
          obtain ⟨rfl, rfl⟩ := q
          refine g_iconst (v := (-1)) hC (dX12_part_88) kc_m1 ?_
          refine g_icmp_ne (tgt := 102) hC (dX12_part_89) (by decide) (fun c89 => ?_) (fun c89 => ?_)
          · have h := wpO_f c89 h
            refine g_aload_n (i := 0) (x := 36) hC (dX12_part_102) rfl rfl ?_
            refine g_dup hC (dX12_part_103) rfl ?_
            refine g_getI hC flX12_114 (dX12_part_104) rfl rfl ?_
            refine g_iconst (v := 1) hC (dX12_part_107) kc_1 ?_
            refine g_iadd hC (dX12_part_108) ?_
            refine g_putI hC fpX12_114 (dX12_part_109) rfl rfl rfl rfl ?_
            refine g_nmM (fun M109 e_M109 => ?_)
            have h := wpO_n e_M109 h
            refine g_aload_n (i := 0) (x := 36) hC (dX12_part_112) rfl rfl ?_
            refine g_getI hC flX12_186 (dX12_part_113) rfl rfl ?_
            refine g_if_eq (tgt := 131) hC (dX12_part_116) (by decide) (fun c116 => ?_) (fun c116 => ?_)
            · have h := wpO_t c116 h
              refine g_iconst (v := 0) hC (dX12_part_131) kc_0 ?_
              refine g_ireturn hC hr (dX12_part_132) ?_
              exact wpO_s h
            · have h := wpO_f c116 h
              refine g_aload_n (i := 0) (x := 36) hC (dX12_part_119) rfl rfl ?_
              refine g_getR (r := 46) hC flX12_46 (dX12_part_120) rfl rfl rfl ?_
              refine g_iload_n (i := 2) (x := r3) hC (dX12_part_123) rfl rfl ?_
              refine g_callSi ([.int r3]) hC wsX12_183 (dX12_part_124) rfl (by omega) (Nat.le_of_ble_eq_true rfl) (cX12_letterOf_ok (by omega) r3 M109 (K := fun r => r = fX12_letterOf r3) rfl) (fun r N q => ?_)
              obtain ⟨rfl, rfl⟩ := q
              obtain ⟨q10, h⟩ := wpO_g h
              refine g_iaload (n := 6) hC (dX12_part_127) rfl q10 ?_
              refine g_goto (tgt := 132) hC (dX12_part_128) (by decide) ?_
              refine g_ireturn hC hr (dX12_part_132) ?_
              exact wpO_s h
          · have h := wpO_t c89 h
            refine g_aload_n (i := 0) (x := 36) hC (dX12_part_92) rfl rfl ?_
            refine g_aload_n (i := 0) (x := 36) hC (dX12_part_93) rfl rfl ?_
            refine g_getI hC flX12_114 (dX12_part_94) rfl rfl ?_
            refine g_callVv ([.int (M3.1 36 16)]) hC wvX12_136 (dX12_part_97) rfl rfl (by omega) (Nat.le_of_ble_eq_true rfl) (cX12_fault_ok (by omega) (M3.1 36 16) M3 (K := fun r => r = fX12_fault (M3.1 36 16) M3) rfl) (fun N q => ?_)
            subst q
            refine g_nmM (fun M97 e_M97 => ?_)
            have h := wpO_n e_M97 h
            refine g_iconst (v := 0) hC (dX12_part_100) kc_0 ?_
            refine g_ireturn hC hr (dX12_part_101) ?_
            exact wpO_s h
        · have h := wpO_f c75 h
          refine g_aload_n (i := 0) (x := 36) hC (dX12_part_78) rfl rfl ?_
          refine g_iconst (v := 3) hC (dX12_part_79) kc_3 ?_
          have h := wpO_b h
          refine g_callVi ([.int 3]) hC wvX12_180 (dX12_part_80) rfl rfl (by omega) (Nat.le_of_ble_eq_true rfl) (cX12_number_ok (by omega) 3 M3 h) (fun r12 M80 h => ?_)
          have h := wpO_p h
          refine g_ireturn hC hr (dX12_part_83) ?_
          exact wpO_s h
      refine g_icmp_ne (tgt := 67) hC (dX12_part_33) (by decide) (fun c33 => ?_) (fun c33 => ?_)
      · have h := wpO_f c33 h
        refine g_sub (lv' := [(0, .ref 36), (2, .int r3)]) [1, 0] rfl ?_
        exact hJ4 () h
      · have h := wpO_t c33 h
        refine g_iload_n (i := 1) (x := x1) hC (dX12_part_36) rfl rfl ?_
        refine g_iconst (v := 4) hC (dX12_part_37) kc_4 ?_
        refine g_icmp_ge (tgt := 67) hC (dX12_part_38) (by decide) (fun c38 => ?_) (fun c38 => ?_)
        · have h := wpO_t c38 h
          refine g_sub (lv' := [(0, .ref 36), (2, .int r3)]) [1, 0] rfl ?_
          exact hJ4 () h
        · have h := wpO_f c38 h
          refine g_aload_n (i := 0) (x := 36) hC (dX12_part_41) rfl rfl ?_
          refine g_dup hC (dX12_part_42) rfl ?_
          refine g_getI hC flX12_114 (dX12_part_43) rfl rfl ?_
          refine g_iconst (v := 1) hC (dX12_part_46) kc_1 ?_
          refine g_iadd hC (dX12_part_47) ?_
          refine g_putI hC fpX12_114 (dX12_part_48) rfl rfl rfl rfl ?_
          refine g_nmM (fun M48 e_M48 => ?_)
          have h := wpO_n e_M48 h
          refine g_aload_n (i := 0) (x := 36) hC (dX12_part_51) rfl rfl ?_
          refine g_iload_n (i := 1) (x := x1) hC (dX12_part_52) rfl rfl ?_
          refine g_iconst (v := 1) hC (dX12_part_53) kc_1 ?_
          refine g_iadd hC (dX12_part_54) ?_
          have h := wpO_b h
          refine g_callVi ([.int (x1 + 1)]) hC wvX12_173 (dX12_part_55) rfl rfl (by omega) (Nat.le_of_ble_eq_true rfl) (hrec0 (x1 + 1) M48 h) (fun r5 M55 h => ?_)
          have h := wpO_p h
          refine g_istore_n (i := 3) (lv2 := [(3, .int r5), (2, .int r3), (0, .ref 36), (1, .int x1)]) hC (dX12_part_58) rfl (by decide) rfl ?_
          refine g_aload_n (i := 0) (x := 36) hC (dX12_part_59) rfl rfl ?_
          refine g_bipush (v := 41) hC (dX12_part_60) kb_41 ?_
          have h := wpO_b h
          refine g_callVv ([.int 41]) hC wvX12_176 (dX12_part_62) rfl rfl (by omega) (Nat.le_of_ble_eq_true rfl) (cX12_need_ok (by omega) 41 M55 h) (fun M62 h => ?_)
          refine g_iload_n (i := 3) (x := r5) hC (dX12_part_65) rfl rfl ?_
          refine g_ireturn hC hr (dX12_part_66) ?_
          exact wpO_s h
    · have h := wpO_t c20 h
      refine g_iconst (v := 0) hC (dX12_part_23) kc_0 ?_
      refine g_ireturn hC hr (dX12_part_24) ?_
      exact wpO_s h
  · have h := wpO_f c6 h
    refine g_aload_n (i := 0) (x := 36) hC (dX12_part_9) rfl rfl ?_
    refine g_iload_n (i := 1) (x := x1) hC (dX12_part_10) rfl rfl ?_
    have h := wpO_b h
    refine g_callVi ([.int x1]) hC wvX12_170 (dX12_part_11) rfl rfl (by omega) (Nat.le_of_ble_eq_true rfl) (hrec3 x1 M3 h) (fun r13 M11 h => ?_)
    have h := wpO_p h
    refine g_ineg hC (dX12_part_14) ?_
    refine g_ireturn hC hr (dX12_part_15) ?_
    exact wpO_s h
def fX12_grp : Nat → Nat → Int32 → zM → Option (Int32 × zM)
  | 0, _, _, _ => none
  | n + 1, s, x1, M => if s = 0 then fX12_held (fX12_grp n) x1 M else if s = 1 then fX12_sum (fX12_grp n) x1 M else if s = 2 then fX12_product (fX12_grp n) x1 M else if s = 3 then fX12_part (fX12_grp n) x1 M else none
theorem cX12_grp {E : zE} : ∀ (n : Nat) {d : Nat}, 4 + n ≤ d → (∀ (x1 : Int32) (M : zM) {K : (Int32 × zM) → Prop}, wpO (fX12_grp n 0 x1 M) K → CMi E (d) yX12_held cX12_held 3 (some .int) [.ref 36, .int x1] M (fun r N => K (r, N))) ∧ (∀ (x1 : Int32) (M : zM) {K : (Int32 × zM) → Prop}, wpO (fX12_grp n 1 x1 M) K → CMi E (d) yX12_sum cX12_sum 5 (some .int) [.ref 36, .int x1] M (fun r N => K (r, N))) ∧ (∀ (x1 : Int32) (M : zM) {K : (Int32 × zM) → Prop}, wpO (fX12_grp n 2 x1 M) K → CMi E (d) yX12_product cX12_product 5 (some .int) [.ref 36, .int x1] M (fun r N => K (r, N))) ∧ (∀ (x1 : Int32) (M : zM) {K : (Int32 × zM) → Prop}, wpO (fX12_grp n 3 x1 M) K → CMi E (d) yX12_part cX12_part 4 (some .int) [.ref 36, .int x1] M (fun r N => K (r, N))) := by
  intro n
  induction n with
  | zero => intro d hd; exact ⟨fun x1 M K h => (wpO_0 h).elim, fun x1 M K h => (wpO_0 h).elim, fun x1 M K h => (wpO_0 h).elim, fun x1 M K h => (wpO_0 h).elim⟩
  | succ n ih =>
    intro d hd
    obtain ⟨i0, i1, i2, i3⟩ := ih (d := d - 1) (by omega)
    refine ⟨fun x1 M K h => ?_, fun x1 M K h => ?_, fun x1 M K h => ?_, fun x1 M K h => ?_⟩
    · rw [fX12_grp.eq_2] at h
      have h := wpO_t rfl h
      exact cX12_held_ok (by omega) i0 i1 i2 i3 x1 M h
    · rw [fX12_grp.eq_2] at h
      have h := wpO_f (by decide) h
      have h := wpO_t rfl h
      exact cX12_sum_ok (by omega) i0 i1 i2 i3 x1 M h
    · rw [fX12_grp.eq_2] at h
      have h := wpO_f (by decide) h
      have h := wpO_f (by decide) h
      have h := wpO_t rfl h
      exact cX12_product_ok (by omega) i0 i1 i2 i3 x1 M h
    · rw [fX12_grp.eq_2] at h
      have h := wpO_f (by decide) h
      have h := wpO_f (by decide) h
      have h := wpO_f (by decide) h
      have h := wpO_t rfl h
      exact cX12_part_ok (by omega) i0 i1 i2 i3 x1 M h
theorem cX12_grp0 {E : zE} {d : Nat} (hd : 104 ≤ d) : ∀ (x1 : Int32) (M : zM) {K : (Int32 × zM) → Prop}, wpO (fX12_grp 100 0 x1 M) K → CMi E (d) yX12_held cX12_held 3 (some .int) [.ref 36, .int x1] M (fun r N => K (r, N)) := (cX12_grp 100 hd).1
theorem cX12_grp1 {E : zE} {d : Nat} (hd : 104 ≤ d) : ∀ (x1 : Int32) (M : zM) {K : (Int32 × zM) → Prop}, wpO (fX12_grp 100 1 x1 M) K → CMi E (d) yX12_sum cX12_sum 5 (some .int) [.ref 36, .int x1] M (fun r N => K (r, N)) := (cX12_grp 100 hd).2.1
theorem cX12_grp2 {E : zE} {d : Nat} (hd : 104 ≤ d) : ∀ (x1 : Int32) (M : zM) {K : (Int32 × zM) → Prop}, wpO (fX12_grp 100 2 x1 M) K → CMi E (d) yX12_product cX12_product 5 (some .int) [.ref 36, .int x1] M (fun r N => K (r, N)) := (cX12_grp 100 hd).2.2.1
theorem cX12_grp3 {E : zE} {d : Nat} (hd : 104 ≤ d) : ∀ (x1 : Int32) (M : zM) {K : (Int32 × zM) → Prop}, wpO (fX12_grp 100 3 x1 M) K → CMi E (d) yX12_part cX12_part 4 (some .int) [.ref 36, .int x1] M (fun r N => K (r, N)) := (cX12_grp 100 hd).2.2.2
/-! LostByStateModel.readRule()Z -/
theorem dX12_readRule_0 : decode cX12_readRule 0 = .ok (.aload_n 0, 1) := by decide +kernel
theorem dX12_readRule_1 : decode cX12_readRule 1 = .ok (.bipush 40, 2) := by decide +kernel
theorem dX12_readRule_3 : decode cX12_readRule 3 = .ok (.invokevirtual 150, 3) := by decide +kernel
theorem dX12_readRule_6 : decode cX12_readRule 6 = .ok (.aload_n 0, 1) := by decide +kernel
theorem dX12_readRule_7 : decode cX12_readRule 7 = .ok (.iconst 0, 1) := by decide +kernel
theorem dX12_readRule_8 : decode cX12_readRule 8 = .ok (.putfield 186, 3) := by decide +kernel
theorem dX12_readRule_11 : decode cX12_readRule 11 = .ok (.aload_n 0, 1) := by decide +kernel
theorem dX12_readRule_12 : decode cX12_readRule 12 = .ok (.getfield 108, 3) := by decide +kernel
theorem dX12_readRule_15 : decode cX12_readRule 15 = .ok (.ifCond .le 9, 3) := by decide +kernel
theorem dX12_readRule_18 : decode cX12_readRule 18 = .ok (.aload_n 0, 1) := by decide +kernel
theorem dX12_readRule_19 : decode cX12_readRule 19 = .ok (.iconst 0, 1) := by decide +kernel
theorem dX12_readRule_20 : decode cX12_readRule 20 = .ok (.invokevirtual 173, 3) := by decide +kernel
theorem dX12_readRule_23 : decode cX12_readRule 23 = .ok (.pop, 1) := by decide +kernel
theorem dX12_readRule_24 : decode cX12_readRule 24 = .ok (.aload_n 0, 1) := by decide +kernel
theorem dX12_readRule_25 : decode cX12_readRule 25 = .ok (.invokevirtual 157, 3) := by decide +kernel
theorem dX12_readRule_28 : decode cX12_readRule 28 = .ok (.ireturn, 1) := by decide +kernel
def fX12_readRule  (M : zM) : Option (Int32 × zM) := zlet (fX12_beginText 40 M) fun (M3 : zM) =>
  zlet (zSI M3 36 22 0) fun (M8 : zM) =>
  (if (M8.1 36 14) ≤ 0 then (
  some M8)
  else (
  (fX12_grp 100 0 0 M8).bind fun (q : Int32 × zM) => zp q fun r3 M20 =>
  some M20) : Option zM).bind fun (M_24 : zM) =>
  zlet ((fX12_wasRight M_24).2) fun (M25 : zM) =>
  some ((fX12_wasRight M_24).1, M25)
set_option maxHeartbeats 4000000 in
theorem cX12_readRule_ok {E : zE} {d : Nat} (hd : 105 ≤ d)  (M : zM) {K : (Int32 × zM) → Prop} (h : wpO (fX12_readRule  M) K) : CMi E d yX12_readRule cX12_readRule 1 (some .boolean) [.ref 36] M (fun r N => K (r, N)) := by
  refine CMi.of (by decide) (Nat.le_of_ble_eq_true rfl) (fun Γ hC hr => ?_)
  have hC : Cx E Γ RX12 cX12_readRule 1 d := hC
  show G E Γ 1 0 [(0, .ref 36)] [] M
  unfold fX12_readRule at h
  refine g_aload_n (i := 0) (x := 36) hC (dX12_readRule_0) rfl rfl ?_
  refine g_bipush (v := 40) hC (dX12_readRule_1) kb_40 ?_
  refine g_callVv ([.int 40]) hC wvX12_150 (dX12_readRule_3) rfl rfl (by omega) (Nat.le_of_ble_eq_true rfl) (cX12_beginText_ok (by omega) 40 M (K := fun r => r = fX12_beginText 40 M) rfl) (fun N q => ?_)
  subst q
  refine g_nmM (fun M3 e_M3 => ?_)
  have h := wpO_n e_M3 h
  refine g_aload_n (i := 0) (x := 36) hC (dX12_readRule_6) rfl rfl ?_
  refine g_iconst (v := 0) hC (dX12_readRule_7) kc_0 ?_
  refine g_putI hC fpX12_186 (dX12_readRule_8) rfl rfl rfl rfl ?_
  refine g_nmM (fun M8 e_M8 => ?_)
  have h := wpO_n e_M8 h
  refine g_aload_n (i := 0) (x := 36) hC (dX12_readRule_11) rfl rfl ?_
  refine g_getI hC flX12_108 (dX12_readRule_12) rfl rfl ?_
  refine wpO_bJ h (fun KJ2 hKJ2 h => ?_)
  have hJ2 : ∀ (M_24 : zM), KJ2 M_24 → G E Γ 1 24 [(0, .ref 36)] [] M_24 := by
    intro M_24 h
    have h := hKJ2 _ h
    refine g_aload_n (i := 0) (x := 36) hC (dX12_readRule_24) rfl rfl ?_
    refine g_callVi ([]) hC wvX12_157 (dX12_readRule_25) rfl rfl (by omega) (Nat.le_of_ble_eq_true rfl) (cX12_wasRight_ok (by omega) M_24 (K := fun r => r = fX12_wasRight M_24) rfl) (fun r N q => ?_)
    obtain ⟨rfl, rfl⟩ : r = (fX12_wasRight M_24).1 ∧ N = (fX12_wasRight M_24).2 := ⟨congrArg Prod.fst q, congrArg Prod.snd q⟩
    refine g_nmM (fun M25 e_M25 => ?_)
    have h := wpO_n e_M25 h
    refine g_zreturn hC hr (dX12_readRule_28) (bX12_wasRight M_24) ?_
    exact wpO_s h
  refine g_if_le (tgt := 24) hC (dX12_readRule_15) (by decide) (fun c15 => ?_) (fun c15 => ?_)
  · have h := wpO_t c15 h
    exact hJ2 _ (wpO_s h)
  · have h := wpO_f c15 h
    refine g_aload_n (i := 0) (x := 36) hC (dX12_readRule_18) rfl rfl ?_
    refine g_iconst (v := 0) hC (dX12_readRule_19) kc_0 ?_
    have h := wpO_b h
    refine g_callVi ([.int 0]) hC wvX12_173 (dX12_readRule_20) rfl rfl (by omega) (Nat.le_of_ble_eq_true rfl) (cX12_grp0 (by omega) 0 M8 h) (fun r3 M20 h => ?_)
    have h := wpO_p h
    refine g_pop hC (dX12_readRule_23) rfl ?_
    exact hJ2 _ (wpO_s h)
/-! LostByStateModel.rule()I -/
theorem dX12_rule_0 : decode cX12_rule 0 = .ok (.aload_n 0, 1) := by decide +kernel
theorem dX12_rule_1 : decode cX12_rule 1 = .ok (.iconst 0, 1) := by decide +kernel
theorem dX12_rule_2 : decode cX12_rule 2 = .ok (.putfield 86, 3) := by decide +kernel
theorem dX12_rule_5 : decode cX12_rule 5 = .ok (.aload_n 0, 1) := by decide +kernel
theorem dX12_rule_6 : decode cX12_rule 6 = .ok (.getfield 102, 3) := by decide +kernel
theorem dX12_rule_9 : decode cX12_rule 9 = .ok (.istore_n 1, 1) := by decide +kernel
theorem dX12_rule_10 : decode cX12_rule 10 = .ok (.aload_n 0, 1) := by decide +kernel
theorem dX12_rule_11 : decode cX12_rule 11 = .ok (.invokevirtual 190, 3) := by decide +kernel
theorem dX12_rule_14 : decode cX12_rule 14 = .ok (.ifCond .ne 10, 3) := by decide +kernel
theorem dX12_rule_17 : decode cX12_rule 17 = .ok (.iconst (-1), 1) := by decide +kernel
theorem dX12_rule_18 : decode cX12_rule 18 = .ok (.aload_n 0, 1) := by decide +kernel
theorem dX12_rule_19 : decode cX12_rule 19 = .ok (.getfield 117, 3) := by decide +kernel
theorem dX12_rule_22 : decode cX12_rule 22 = .ok (.isub, 1) := by decide +kernel
theorem dX12_rule_23 : decode cX12_rule 23 = .ok (.ireturn, 1) := by decide +kernel
theorem dX12_rule_24 : decode cX12_rule 24 = .ok (.iconst 0, 1) := by decide +kernel
theorem dX12_rule_25 : decode cX12_rule 25 = .ok (.istore_n 2, 1) := by decide +kernel
theorem dX12_rule_26 : decode cX12_rule 26 = .ok (.iload_n 2, 1) := by decide +kernel
theorem dX12_rule_27 : decode cX12_rule 27 = .ok (.iload_n 1, 1) := by decide +kernel
theorem dX12_rule_28 : decode cX12_rule 28 = .ok (.if_icmp .ge 21, 3) := by decide +kernel
theorem dX12_rule_31 : decode cX12_rule 31 = .ok (.aload_n 0, 1) := by decide +kernel
theorem dX12_rule_32 : decode cX12_rule 32 = .ok (.getfield 40, 3) := by decide +kernel
theorem dX12_rule_35 : decode cX12_rule 35 = .ok (.iload_n 2, 1) := by decide +kernel
theorem dX12_rule_36 : decode cX12_rule 36 = .ok (.aload_n 0, 1) := by decide +kernel
theorem dX12_rule_37 : decode cX12_rule 37 = .ok (.getfield 29, 3) := by decide +kernel
theorem dX12_rule_40 : decode cX12_rule 40 = .ok (.iload_n 2, 1) := by decide +kernel
theorem dX12_rule_41 : decode cX12_rule 41 = .ok (.baload, 1) := by decide +kernel
theorem dX12_rule_42 : decode cX12_rule 42 = .ok (.bastore, 1) := by decide +kernel
theorem dX12_rule_43 : decode cX12_rule 43 = .ok (.iinc 2 1, 3) := by decide +kernel
theorem dX12_rule_46 : decode cX12_rule 46 = .ok (.goto (-20), 3) := by decide +kernel
theorem dX12_rule_49 : decode cX12_rule 49 = .ok (.aload_n 0, 1) := by decide +kernel
theorem dX12_rule_50 : decode cX12_rule 50 = .ok (.iload_n 1, 1) := by decide +kernel
theorem dX12_rule_51 : decode cX12_rule 51 = .ok (.putfield 193, 3) := by decide +kernel
theorem dX12_rule_54 : decode cX12_rule 54 = .ok (.iconst 0, 1) := by decide +kernel
theorem dX12_rule_55 : decode cX12_rule 55 = .ok (.ireturn, 1) := by decide +kernel
def fX12_rule_L26 (x1 : Int32) : Nat → Int32 → zM → Option zM
  | 0, _, _ => none
  | n + 1, x2, M => if x1 ≤ x2 then (
    some M)
    else (
    (M.2.2 19).bind fun (a2 : Nat) =>
    if zin x2 80 then (
    if zSH a2 = .inr (3, zLen a2) then (
    if zin x2 (zLen a2) then (
    zlet (zSI M a2 x2.toNatClampNeg (vp_nar .byte (M.1 41 x2.toNatClampNeg))) fun (M42 : zM) =>
    fX12_rule_L26 x1 n (x2 + 1) M42) else none) else none) else none)
def fX12_rule  (M : zM) : Option (Int32 × zM) := zlet (zSI M 36 12 0) fun (M2 : zM) =>
  zlet (M2.1 36 9) fun (x1_9 : Int32) =>
  (fX12_readRule M2).bind fun (q : Int32 × zM) => zp q fun r1 M11 =>
  if r1 = 0 then (
  some ((-1) - (M11.1 36 17), M11))
  else (
  (fX12_rule_L26 x1_9 4000 0 M11).bind fun (M_49 : zM) =>
  zlet (zSI M_49 36 21 x1_9) fun (M51 : zM) =>
  some (0, M51))
set_option maxHeartbeats 4000000 in
theorem lX12_rule_26 {E : zE} {Γ : zT} {d : Nat} {K1 : zM → Prop} (hC : Cx E Γ RX12 cX12_rule 3 d) (hd : 106 ≤ d) (x1 : Int32) (hx : ∀ (M_49 : zM), K1 M_49 → G E Γ 3 49 [(0, .ref 36), (1, .int x1)] [] M_49) :
    ∀ (n : Nat) (x2 : Int32) (M : zM), wpO (fX12_rule_L26 x1 n x2 M) K1 → G E Γ 3 26 [(0, .ref 36), (1, .int x1), (2, .int x2)] [] M := by
  intro n
  induction n with
  | zero =>
    intro x2 M h
    exact (wpO_0 h).elim
  | succ n ih =>
    intro x2 M h
    rw [fX12_rule_L26.eq_2] at h
    refine g_iload_n (i := 2) (x := x2) hC (dX12_rule_26) rfl rfl ?_
    refine g_iload_n (i := 1) (x := x1) hC (dX12_rule_27) rfl rfl ?_
    refine g_icmp_ge (tgt := 49) hC (dX12_rule_28) (by decide) (fun c28 => ?_) (fun c28 => ?_)
    · have h := wpO_t c28 h
      refine g_sub (lv' := [(0, .ref 36), (1, .int x1)]) [0, 1] rfl ?_
      exact hx _ (wpO_s h)
    · have h := wpO_f c28 h
      refine g_aload_n (i := 0) (x := 36) hC (dX12_rule_31) rfl rfl ?_
      obtain ⟨a2, q3, h⟩ := wpO_d h
      refine g_getD hC flX12_40 (dX12_rule_32) rfl rfl q3 ?_
      refine g_iload_n (i := 2) (x := x2) hC (dX12_rule_35) rfl rfl ?_
      refine g_aload_n (i := 0) (x := 36) hC (dX12_rule_36) rfl rfl ?_
      refine g_getR (r := 41) hC flX12_29 (dX12_rule_37) rfl rfl rfl ?_
      refine g_iload_n (i := 2) (x := x2) hC (dX12_rule_40) rfl rfl ?_
      obtain ⟨q4, h⟩ := wpO_g h
      refine g_baload (n := 80) hC (dX12_rule_41) rfl q4 ?_
      obtain ⟨q5, h⟩ := wpO_g h
      obtain ⟨q6, h⟩ := wpO_g h
      refine g_bastore (n := (zLen a2)) hC (dX12_rule_42) q5 q6 ?_
      refine g_nmM (fun M42 e_M42 => ?_)
      have h := wpO_n e_M42 h
      refine g_iinc (x := x2) (v := (x2 + 1)) (lv2 := [(2, .int (x2 + 1)), (0, .ref 36), (1, .int x1)]) hC (dX12_rule_43) rfl rfl (by decide) rfl ?_
      refine g_goto (tgt := 26) hC (dX12_rule_46) (by decide) ?_
      refine g_sub (lv' := [(0, .ref 36), (1, .int x1), (2, .int (x2 + 1))]) [1, 2, 0] rfl ?_
      exact ih _ _ h
set_option maxHeartbeats 4000000 in
theorem cX12_rule_ok {E : zE} {d : Nat} (hd : 106 ≤ d)  (M : zM) {K : (Int32 × zM) → Prop} (h : wpO (fX12_rule  M) K) : CMi E d yX12_rule cX12_rule 3 (some .int) [.ref 36] M (fun r N => K (r, N)) := by
  refine CMi.of (by decide) (Nat.le_of_ble_eq_true rfl) (fun Γ hC hr => ?_)
  have hC : Cx E Γ RX12 cX12_rule 3 d := hC
  show G E Γ 3 0 [(0, .ref 36)] [] M
  unfold fX12_rule at h
  refine g_aload_n (i := 0) (x := 36) hC (dX12_rule_0) rfl rfl ?_
  refine g_iconst (v := 0) hC (dX12_rule_1) kc_0 ?_
  refine g_putI hC fpX12_86 (dX12_rule_2) rfl rfl rfl rfl ?_
  refine g_nmM (fun M2 e_M2 => ?_)
  have h := wpO_n e_M2 h
  refine g_aload_n (i := 0) (x := 36) hC (dX12_rule_5) rfl rfl ?_
  refine g_getI hC flX12_102 (dX12_rule_6) rfl rfl ?_
  refine g_nmi (fun x1_9 e_x1_9 => ?_)
  have h := wpO_n e_x1_9 h
  refine g_istore_n (i := 1) (lv2 := [(1, .int x1_9), (0, .ref 36)]) hC (dX12_rule_9) rfl (by decide) rfl ?_
  refine g_aload_n (i := 0) (x := 36) hC (dX12_rule_10) rfl rfl ?_
  have h := wpO_b h
  refine g_callVi ([]) hC wvX12_190 (dX12_rule_11) rfl rfl (by omega) (Nat.le_of_ble_eq_true rfl) (cX12_readRule_ok (by omega) M2 h) (fun r1 M11 h => ?_)
  have h := wpO_p h
  refine g_if_ne (tgt := 24) hC (dX12_rule_14) (by decide) (fun c14 => ?_) (fun c14 => ?_)
  · have h := wpO_f c14 h
    refine g_iconst (v := 0) hC (dX12_rule_24) kc_0 ?_
    refine g_istore_n (i := 2) (lv2 := [(2, .int 0), (1, .int x1_9), (0, .ref 36)]) hC (dX12_rule_25) rfl (by decide) rfl ?_
    refine g_sub (lv' := [(0, .ref 36), (1, .int x1_9), (2, .int 0)]) [2, 1, 0] rfl ?_
    refine wpO_bJ h (fun KL26 hKL26 h => ?_)
    refine lX12_rule_26 (K1 := KL26) hC (by omega) x1_9 (fun M_49 h => ?_) _ _ _ h
    have h := hKL26 _ h
    refine g_aload_n (i := 0) (x := 36) hC (dX12_rule_49) rfl rfl ?_
    refine g_iload_n (i := 1) (x := x1_9) hC (dX12_rule_50) rfl rfl ?_
    refine g_putI hC fpX12_193 (dX12_rule_51) rfl rfl rfl rfl ?_
    refine g_nmM (fun M51 e_M51 => ?_)
    have h := wpO_n e_M51 h
    refine g_iconst (v := 0) hC (dX12_rule_54) kc_0 ?_
    refine g_ireturn hC hr (dX12_rule_55) ?_
    exact wpO_s h
  · have h := wpO_t c14 h
    refine g_iconst (v := (-1)) hC (dX12_rule_17) kc_m1 ?_
    refine g_aload_n (i := 0) (x := 36) hC (dX12_rule_18) rfl rfl ?_
    refine g_getI hC flX12_117 (dX12_rule_19) rfl rfl ?_
    refine g_isub hC (dX12_rule_22) ?_
    refine g_ireturn hC hr (dX12_rule_23) ?_
    exact wpO_s h
/-! LostByStateModel.matchOf([III)I -/
theorem dX12_matchOf_0 : decode cX12_matchOf 0 = .ok (.iload_n 2, 1) := by decide +kernel
theorem dX12_matchOf_1 : decode cX12_matchOf 1 = .ok (.aload_n 0, 1) := by decide +kernel
theorem dX12_matchOf_2 : decode cX12_matchOf 2 = .ok (.getfield 20, 3) := by decide +kernel
theorem dX12_matchOf_5 : decode cX12_matchOf 5 = .ok (.iload_n 3, 1) := by decide +kernel
theorem dX12_matchOf_6 : decode cX12_matchOf 6 = .ok (.iaload, 1) := by decide +kernel
theorem dX12_matchOf_7 : decode cX12_matchOf 7 = .ok (.iand, 1) := by decide +kernel
theorem dX12_matchOf_8 : decode cX12_matchOf 8 = .ok (.invokestatic 196, 3) := by decide +kernel
theorem dX12_matchOf_11 : decode cX12_matchOf 11 = .ok (.istore 4, 2) := by decide +kernel
theorem dX12_matchOf_13 : decode cX12_matchOf 13 = .ok (.iload_n 2, 1) := by decide +kernel
theorem dX12_matchOf_14 : decode cX12_matchOf 14 = .ok (.aload_n 0, 1) := by decide +kernel
theorem dX12_matchOf_15 : decode cX12_matchOf 15 = .ok (.getfield 20, 3) := by decide +kernel
theorem dX12_matchOf_18 : decode cX12_matchOf 18 = .ok (.iload_n 3, 1) := by decide +kernel
theorem dX12_matchOf_19 : decode cX12_matchOf 19 = .ok (.iaload, 1) := by decide +kernel
theorem dX12_matchOf_20 : decode cX12_matchOf 20 = .ok (.iconst (-1), 1) := by decide +kernel
theorem dX12_matchOf_21 : decode cX12_matchOf 21 = .ok (.ixor, 1) := by decide +kernel
theorem dX12_matchOf_22 : decode cX12_matchOf 22 = .ok (.iand, 1) := by decide +kernel
theorem dX12_matchOf_23 : decode cX12_matchOf 23 = .ok (.invokestatic 196, 3) := by decide +kernel
theorem dX12_matchOf_26 : decode cX12_matchOf 26 = .ok (.istore 5, 2) := by decide +kernel
theorem dX12_matchOf_28 : decode cX12_matchOf 28 = .ok (.aload_n 0, 1) := by decide +kernel
theorem dX12_matchOf_29 : decode cX12_matchOf 29 = .ok (.getfield 20, 3) := by decide +kernel
theorem dX12_matchOf_32 : decode cX12_matchOf 32 = .ok (.iload_n 3, 1) := by decide +kernel
theorem dX12_matchOf_33 : decode cX12_matchOf 33 = .ok (.iaload, 1) := by decide +kernel
theorem dX12_matchOf_34 : decode cX12_matchOf 34 = .ok (.iload_n 2, 1) := by decide +kernel
theorem dX12_matchOf_35 : decode cX12_matchOf 35 = .ok (.iconst (-1), 1) := by decide +kernel
theorem dX12_matchOf_36 : decode cX12_matchOf 36 = .ok (.ixor, 1) := by decide +kernel
theorem dX12_matchOf_37 : decode cX12_matchOf 37 = .ok (.iand, 1) := by decide +kernel
theorem dX12_matchOf_38 : decode cX12_matchOf 38 = .ok (.invokestatic 196, 3) := by decide +kernel
theorem dX12_matchOf_41 : decode cX12_matchOf 41 = .ok (.istore 6, 2) := by decide +kernel
theorem dX12_matchOf_43 : decode cX12_matchOf 43 = .ok (.aload_n 0, 1) := by decide +kernel
theorem dX12_matchOf_44 : decode cX12_matchOf 44 = .ok (.getfield 193, 3) := by decide +kernel
theorem dX12_matchOf_47 : decode cX12_matchOf 47 = .ok (.ifCond .ne 16, 3) := by decide +kernel
theorem dX12_matchOf_50 : decode cX12_matchOf 50 = .ok (.iload 4, 2) := by decide +kernel
theorem dX12_matchOf_52 : decode cX12_matchOf 52 = .ok (.iconst 2, 1) := by decide +kernel
theorem dX12_matchOf_53 : decode cX12_matchOf 53 = .ok (.imul, 1) := by decide +kernel
theorem dX12_matchOf_54 : decode cX12_matchOf 54 = .ok (.iload 5, 2) := by decide +kernel
theorem dX12_matchOf_56 : decode cX12_matchOf 56 = .ok (.iconst 3, 1) := by decide +kernel
theorem dX12_matchOf_57 : decode cX12_matchOf 57 = .ok (.imul, 1) := by decide +kernel
theorem dX12_matchOf_58 : decode cX12_matchOf 58 = .ok (.isub, 1) := by decide +kernel
theorem dX12_matchOf_59 : decode cX12_matchOf 59 = .ok (.iload 6, 2) := by decide +kernel
theorem dX12_matchOf_61 : decode cX12_matchOf 61 = .ok (.isub, 1) := by decide +kernel
theorem dX12_matchOf_62 : decode cX12_matchOf 62 = .ok (.ireturn, 1) := by decide +kernel
theorem dX12_matchOf_63 : decode cX12_matchOf 63 = .ok (.aload_n 0, 1) := by decide +kernel
theorem dX12_matchOf_64 : decode cX12_matchOf 64 = .ok (.getfield 46, 3) := by decide +kernel
theorem dX12_matchOf_67 : decode cX12_matchOf 67 = .ok (.iconst 0, 1) := by decide +kernel
theorem dX12_matchOf_68 : decode cX12_matchOf 68 = .ok (.iload 4, 2) := by decide +kernel
theorem dX12_matchOf_70 : decode cX12_matchOf 70 = .ok (.iastore, 1) := by decide +kernel
theorem dX12_matchOf_71 : decode cX12_matchOf 71 = .ok (.aload_n 0, 1) := by decide +kernel
theorem dX12_matchOf_72 : decode cX12_matchOf 72 = .ok (.getfield 46, 3) := by decide +kernel
theorem dX12_matchOf_75 : decode cX12_matchOf 75 = .ok (.iconst 1, 1) := by decide +kernel
theorem dX12_matchOf_76 : decode cX12_matchOf 76 = .ok (.iload 5, 2) := by decide +kernel
theorem dX12_matchOf_78 : decode cX12_matchOf 78 = .ok (.iastore, 1) := by decide +kernel
theorem dX12_matchOf_79 : decode cX12_matchOf 79 = .ok (.aload_n 0, 1) := by decide +kernel
theorem dX12_matchOf_80 : decode cX12_matchOf 80 = .ok (.getfield 46, 3) := by decide +kernel
theorem dX12_matchOf_83 : decode cX12_matchOf 83 = .ok (.iconst 2, 1) := by decide +kernel
theorem dX12_matchOf_84 : decode cX12_matchOf 84 = .ok (.iload 6, 2) := by decide +kernel
theorem dX12_matchOf_86 : decode cX12_matchOf 86 = .ok (.iastore, 1) := by decide +kernel
theorem dX12_matchOf_87 : decode cX12_matchOf 87 = .ok (.aload_n 0, 1) := by decide +kernel
theorem dX12_matchOf_88 : decode cX12_matchOf 88 = .ok (.getfield 46, 3) := by decide +kernel
theorem dX12_matchOf_91 : decode cX12_matchOf 91 = .ok (.iconst 3, 1) := by decide +kernel
theorem dX12_matchOf_92 : decode cX12_matchOf 92 = .ok (.aload_n 0, 1) := by decide +kernel
theorem dX12_matchOf_93 : decode cX12_matchOf 93 = .ok (.getfield 23, 3) := by decide +kernel
theorem dX12_matchOf_96 : decode cX12_matchOf 96 = .ok (.iload_n 3, 1) := by decide +kernel
theorem dX12_matchOf_97 : decode cX12_matchOf 97 = .ok (.iaload, 1) := by decide +kernel
theorem dX12_matchOf_98 : decode cX12_matchOf 98 = .ok (.iastore, 1) := by decide +kernel
theorem dX12_matchOf_99 : decode cX12_matchOf 99 = .ok (.aload_n 0, 1) := by decide +kernel
theorem dX12_matchOf_100 : decode cX12_matchOf 100 = .ok (.getfield 46, 3) := by decide +kernel
theorem dX12_matchOf_103 : decode cX12_matchOf 103 = .ok (.iconst 4, 1) := by decide +kernel
theorem dX12_matchOf_104 : decode cX12_matchOf 104 = .ok (.aload_n 1, 1) := by decide +kernel
theorem dX12_matchOf_105 : decode cX12_matchOf 105 = .ok (.iload_n 3, 1) := by decide +kernel
theorem dX12_matchOf_106 : decode cX12_matchOf 106 = .ok (.iaload, 1) := by decide +kernel
theorem dX12_matchOf_107 : decode cX12_matchOf 107 = .ok (.iconst 2, 1) := by decide +kernel
theorem dX12_matchOf_108 : decode cX12_matchOf 108 = .ok (.if_icmp .ne 12, 3) := by decide +kernel
theorem dX12_matchOf_111 : decode cX12_matchOf 111 = .ok (.aload_n 1, 1) := by decide +kernel
theorem dX12_matchOf_112 : decode cX12_matchOf 112 = .ok (.bipush 16, 2) := by decide +kernel
theorem dX12_matchOf_114 : decode cX12_matchOf 114 = .ok (.iload_n 3, 1) := by decide +kernel
theorem dX12_matchOf_115 : decode cX12_matchOf 115 = .ok (.iadd, 1) := by decide +kernel
theorem dX12_matchOf_116 : decode cX12_matchOf 116 = .ok (.iaload, 1) := by decide +kernel
theorem dX12_matchOf_117 : decode cX12_matchOf 117 = .ok (.goto 4, 3) := by decide +kernel
theorem dX12_matchOf_120 : decode cX12_matchOf 120 = .ok (.iconst 0, 1) := by decide +kernel
theorem dX12_matchOf_121 : decode cX12_matchOf 121 = .ok (.iastore, 1) := by decide +kernel
theorem dX12_matchOf_122 : decode cX12_matchOf 122 = .ok (.aload_n 0, 1) := by decide +kernel
theorem dX12_matchOf_123 : decode cX12_matchOf 123 = .ok (.getfield 46, 3) := by decide +kernel
theorem dX12_matchOf_126 : decode cX12_matchOf 126 = .ok (.iconst 5, 1) := by decide +kernel
theorem dX12_matchOf_127 : decode cX12_matchOf 127 = .ok (.aload_n 1, 1) := by decide +kernel
theorem dX12_matchOf_128 : decode cX12_matchOf 128 = .ok (.bipush 24, 2) := by decide +kernel
theorem dX12_matchOf_130 : decode cX12_matchOf 130 = .ok (.iaload, 1) := by decide +kernel
theorem dX12_matchOf_131 : decode cX12_matchOf 131 = .ok (.bipush 7, 2) := by decide +kernel
theorem dX12_matchOf_133 : decode cX12_matchOf 133 = .ok (.irem, 1) := by decide +kernel
theorem dX12_matchOf_134 : decode cX12_matchOf 134 = .ok (.iastore, 1) := by decide +kernel
theorem dX12_matchOf_135 : decode cX12_matchOf 135 = .ok (.aload_n 0, 1) := by decide +kernel
theorem dX12_matchOf_136 : decode cX12_matchOf 136 = .ok (.aload_n 0, 1) := by decide +kernel
theorem dX12_matchOf_137 : decode cX12_matchOf 137 = .ok (.getfield 40, 3) := by decide +kernel
theorem dX12_matchOf_140 : decode cX12_matchOf 140 = .ok (.aload_n 0, 1) := by decide +kernel
theorem dX12_matchOf_141 : decode cX12_matchOf 141 = .ok (.getfield 193, 3) := by decide +kernel
theorem dX12_matchOf_144 : decode cX12_matchOf 144 = .ok (.bipush 40, 2) := by decide +kernel
theorem dX12_matchOf_146 : decode cX12_matchOf 146 = .ok (.invokevirtual 120, 3) := by decide +kernel
theorem dX12_matchOf_149 : decode cX12_matchOf 149 = .ok (.aload_n 0, 1) := by decide +kernel
theorem dX12_matchOf_150 : decode cX12_matchOf 150 = .ok (.iconst 1, 1) := by decide +kernel
theorem dX12_matchOf_151 : decode cX12_matchOf 151 = .ok (.putfield 186, 3) := by decide +kernel
theorem dX12_matchOf_154 : decode cX12_matchOf 154 = .ok (.aload_n 0, 1) := by decide +kernel
theorem dX12_matchOf_155 : decode cX12_matchOf 155 = .ok (.iconst 0, 1) := by decide +kernel
theorem dX12_matchOf_156 : decode cX12_matchOf 156 = .ok (.invokevirtual 173, 3) := by decide +kernel
theorem dX12_matchOf_159 : decode cX12_matchOf 159 = .ok (.istore 7, 2) := by decide +kernel
theorem dX12_matchOf_161 : decode cX12_matchOf 161 = .ok (.aload_n 0, 1) := by decide +kernel
theorem dX12_matchOf_162 : decode cX12_matchOf 162 = .ok (.iconst 0, 1) := by decide +kernel
theorem dX12_matchOf_163 : decode cX12_matchOf 163 = .ok (.putfield 186, 3) := by decide +kernel
theorem dX12_matchOf_166 : decode cX12_matchOf 166 = .ok (.iload 7, 2) := by decide +kernel
theorem dX12_matchOf_168 : decode cX12_matchOf 168 = .ok (.ireturn, 1) := by decide +kernel
def fX12_matchOf (x1 : Nat) (x2 : Int32) (x3 : Int32) (M : zM) : Option (Int32 × zM) := if zin x3 8 then (
  zlet (fJ6_bitCount_0f7a4 (x2 &&& (M.1 38 x3.toNatClampNeg))) fun (x4_11 : Int32) =>
  zlet (fJ6_bitCount_0f7a4 (x2 &&& ((M.1 38 x3.toNatClampNeg) ^^^ (-1)))) fun (x5_26 : Int32) =>
  zlet (fJ6_bitCount_0f7a4 ((M.1 38 x3.toNatClampNeg) &&& (x2 ^^^ (-1)))) fun (x6_41 : Int32) =>
  if (M.1 36 21) = 0 then (
  some (((x4_11 * 2) - (x5_26 * 3)) - x6_41, M))
  else (
  zlet (zSI M 46 0 x4_11) fun (M70 : zM) =>
  zlet (zSI M70 46 1 x5_26) fun (M78 : zM) =>
  zlet (zSI M78 46 2 x6_41) fun (M86 : zM) =>
  zlet (zSI M86 46 3 (M86.1 39 x3.toNatClampNeg)) fun (M98 : zM) =>
  if zSH x1 = .inr (0, zLen x1) then (
  if zin x3 (zLen x1) then (
  (if (M98.1 x1 x3.toNatClampNeg) = 2 then (
  if zin (16 + x3) (zLen x1) then (
  some (M98.1 x1 (16 + x3).toNatClampNeg)) else none)
  else (
  some 0) : Option Int32).bind fun (s0_121 : Int32) =>
  zlet (zSI M98 46 4 s0_121) fun (M121 : zM) =>
  if zin 24 (zLen x1) then (
  zlet (zSI M121 46 5 (zrem (M121.1 x1 24) 7)) fun (M134 : zM) =>
  (M134.2.2 19).bind fun (a10 : Nat) =>
  zlet (fX12_begin a10 (M134.1 36 21) 40 M134) fun (M146 : zM) =>
  zlet (zSI M146 36 22 1) fun (M151 : zM) =>
  (fX12_grp 100 0 0 M151).bind fun (q : Int32 × zM) => zp q fun r13 M156 =>
  zlet (zSI M156 36 22 0) fun (M163 : zM) =>
  some (r13, M163)) else none) else none) else none)) else none
set_option maxHeartbeats 4000000 in
theorem cX12_matchOf_ok {E : zE} {d : Nat} (hd : 105 ≤ d) (x1 : Nat) (x2 : Int32) (x3 : Int32) (M : zM) {K : (Int32 × zM) → Prop} (h : wpO (fX12_matchOf x1 x2 x3 M) K) : CMi E d yX12_matchOf cX12_matchOf 8 (some .int) [.ref 36, .ref x1, .int x2, .int x3] M (fun r N => K (r, N)) := by
  refine CMi.of (by decide) (Nat.le_of_ble_eq_true rfl) (fun Γ hC hr => ?_)
  have hC : Cx E Γ RX12 cX12_matchOf 8 d := hC
  show G E Γ 8 0 [(0, .ref 36), (1, .ref x1), (2, .int x2), (3, .int x3)] [] M
  unfold fX12_matchOf at h
  refine g_iload_n (i := 2) (x := x2) hC (dX12_matchOf_0) rfl rfl ?_
  refine g_aload_n (i := 0) (x := 36) hC (dX12_matchOf_1) rfl rfl ?_
  refine g_getR (r := 38) hC flX12_20 (dX12_matchOf_2) rfl rfl rfl ?_
  refine g_iload_n (i := 3) (x := x3) hC (dX12_matchOf_5) rfl rfl ?_
  obtain ⟨q1, h⟩ := wpO_g h
  refine g_iaload (n := 8) hC (dX12_matchOf_6) rfl q1 ?_
  refine g_iand hC (dX12_matchOf_7) ?_
  refine g_callSi ([.int (x2 &&& (M.1 38 x3.toNatClampNeg))]) hC wsX12_196 (dX12_matchOf_8) rfl (by omega) (Nat.le_of_ble_eq_true rfl) (cJ6_bitCount_0f7a4_ok (by omega) (x2 &&& (M.1 38 x3.toNatClampNeg)) M (K := fun r => r = fJ6_bitCount_0f7a4 (x2 &&& (M.1 38 x3.toNatClampNeg))) rfl) (fun r N q => ?_)
  obtain ⟨rfl, rfl⟩ := q
  refine g_nmi (fun x4_11 e_x4_11 => ?_)
  have h := wpO_n e_x4_11 h
  refine g_istore (i := 4) (lv2 := [(4, .int x4_11), (0, .ref 36), (1, .ref x1), (2, .int x2), (3, .int x3)]) hC (dX12_matchOf_11) (by decide) rfl ?_
  refine g_iload_n (i := 2) (x := x2) hC (dX12_matchOf_13) rfl rfl ?_
  refine g_aload_n (i := 0) (x := 36) hC (dX12_matchOf_14) rfl rfl ?_
  refine g_getR (r := 38) hC flX12_20 (dX12_matchOf_15) rfl rfl rfl ?_
  refine g_iload_n (i := 3) (x := x3) hC (dX12_matchOf_18) rfl rfl ?_
  refine g_iaload (n := 8) hC (dX12_matchOf_19) rfl q1 ?_
  refine g_iconst (v := (-1)) hC (dX12_matchOf_20) kc_m1 ?_
  refine g_ixor hC (dX12_matchOf_21) ?_
  refine g_iand hC (dX12_matchOf_22) ?_
  refine g_callSi ([.int (x2 &&& ((M.1 38 x3.toNatClampNeg) ^^^ (-1)))]) hC wsX12_196 (dX12_matchOf_23) rfl (by omega) (Nat.le_of_ble_eq_true rfl) (cJ6_bitCount_0f7a4_ok (by omega) (x2 &&& ((M.1 38 x3.toNatClampNeg) ^^^ (-1))) M (K := fun r => r = fJ6_bitCount_0f7a4 (x2 &&& ((M.1 38 x3.toNatClampNeg) ^^^ (-1)))) rfl) (fun r N q => ?_)
  obtain ⟨rfl, rfl⟩ := q
  refine g_nmi (fun x5_26 e_x5_26 => ?_)
  have h := wpO_n e_x5_26 h
  refine g_istore (i := 5) (lv2 := [(5, .int x5_26), (4, .int x4_11), (0, .ref 36), (1, .ref x1), (2, .int x2), (3, .int x3)]) hC (dX12_matchOf_26) (by decide) rfl ?_
  refine g_aload_n (i := 0) (x := 36) hC (dX12_matchOf_28) rfl rfl ?_
  refine g_getR (r := 38) hC flX12_20 (dX12_matchOf_29) rfl rfl rfl ?_
  refine g_iload_n (i := 3) (x := x3) hC (dX12_matchOf_32) rfl rfl ?_
  refine g_iaload (n := 8) hC (dX12_matchOf_33) rfl q1 ?_
  refine g_iload_n (i := 2) (x := x2) hC (dX12_matchOf_34) rfl rfl ?_
  refine g_iconst (v := (-1)) hC (dX12_matchOf_35) kc_m1 ?_
  refine g_ixor hC (dX12_matchOf_36) ?_
  refine g_iand hC (dX12_matchOf_37) ?_
  refine g_callSi ([.int ((M.1 38 x3.toNatClampNeg) &&& (x2 ^^^ (-1)))]) hC wsX12_196 (dX12_matchOf_38) rfl (by omega) (Nat.le_of_ble_eq_true rfl) (cJ6_bitCount_0f7a4_ok (by omega) ((M.1 38 x3.toNatClampNeg) &&& (x2 ^^^ (-1))) M (K := fun r => r = fJ6_bitCount_0f7a4 ((M.1 38 x3.toNatClampNeg) &&& (x2 ^^^ (-1)))) rfl) (fun r N q => ?_)
  obtain ⟨rfl, rfl⟩ := q
  refine g_nmi (fun x6_41 e_x6_41 => ?_)
  have h := wpO_n e_x6_41 h
  refine g_istore (i := 6) (lv2 := [(6, .int x6_41), (5, .int x5_26), (4, .int x4_11), (0, .ref 36), (1, .ref x1), (2, .int x2), (3, .int x3)]) hC (dX12_matchOf_41) (by decide) rfl ?_
  refine g_aload_n (i := 0) (x := 36) hC (dX12_matchOf_43) rfl rfl ?_
  refine g_getI hC flX12_193 (dX12_matchOf_44) rfl rfl ?_
  refine g_if_ne (tgt := 63) hC (dX12_matchOf_47) (by decide) (fun c47 => ?_) (fun c47 => ?_)
  · have h := wpO_f c47 h
    refine g_aload_n (i := 0) (x := 36) hC (dX12_matchOf_63) rfl rfl ?_
    refine g_getR (r := 46) hC flX12_46 (dX12_matchOf_64) rfl rfl rfl ?_
    refine g_iconst (v := 0) hC (dX12_matchOf_67) kc_0 ?_
    refine g_iload (i := 4) (x := x4_11) hC (dX12_matchOf_68) rfl ?_
    refine g_iastore (n := 6) hC (dX12_matchOf_70) rfl (by decide) ?_
    refine g_nmM (fun M70 e_M70 => ?_)
    have h := wpO_n e_M70 h
    refine g_aload_n (i := 0) (x := 36) hC (dX12_matchOf_71) rfl rfl ?_
    refine g_getR (r := 46) hC flX12_46 (dX12_matchOf_72) rfl rfl rfl ?_
    refine g_iconst (v := 1) hC (dX12_matchOf_75) kc_1 ?_
    refine g_iload (i := 5) (x := x5_26) hC (dX12_matchOf_76) rfl ?_
    refine g_iastore (n := 6) hC (dX12_matchOf_78) rfl (by decide) ?_
    refine g_nmM (fun M78 e_M78 => ?_)
    have h := wpO_n e_M78 h
    refine g_aload_n (i := 0) (x := 36) hC (dX12_matchOf_79) rfl rfl ?_
    refine g_getR (r := 46) hC flX12_46 (dX12_matchOf_80) rfl rfl rfl ?_
    refine g_iconst (v := 2) hC (dX12_matchOf_83) kc_2 ?_
    refine g_iload (i := 6) (x := x6_41) hC (dX12_matchOf_84) rfl ?_
    refine g_iastore (n := 6) hC (dX12_matchOf_86) rfl (by decide) ?_
    refine g_nmM (fun M86 e_M86 => ?_)
    have h := wpO_n e_M86 h
    refine g_aload_n (i := 0) (x := 36) hC (dX12_matchOf_87) rfl rfl ?_
    refine g_getR (r := 46) hC flX12_46 (dX12_matchOf_88) rfl rfl rfl ?_
    refine g_iconst (v := 3) hC (dX12_matchOf_91) kc_3 ?_
    refine g_aload_n (i := 0) (x := 36) hC (dX12_matchOf_92) rfl rfl ?_
    refine g_getR (r := 39) hC flX12_23 (dX12_matchOf_93) rfl rfl rfl ?_
    refine g_iload_n (i := 3) (x := x3) hC (dX12_matchOf_96) rfl rfl ?_
    refine g_iaload (n := 8) hC (dX12_matchOf_97) rfl q1 ?_
    refine g_iastore (n := 6) hC (dX12_matchOf_98) rfl (by decide) ?_
    refine g_nmM (fun M98 e_M98 => ?_)
    have h := wpO_n e_M98 h
    refine g_aload_n (i := 0) (x := 36) hC (dX12_matchOf_99) rfl rfl ?_
    refine g_getR (r := 46) hC flX12_46 (dX12_matchOf_100) rfl rfl rfl ?_
    refine g_iconst (v := 4) hC (dX12_matchOf_103) kc_4 ?_
    refine g_aload_n (i := 1) (x := x1) hC (dX12_matchOf_104) rfl rfl ?_
    refine g_iload_n (i := 3) (x := x3) hC (dX12_matchOf_105) rfl rfl ?_
    obtain ⟨q5, h⟩ := wpO_g h
    obtain ⟨q6, h⟩ := wpO_g h
    refine g_iaload (n := (zLen x1)) hC (dX12_matchOf_106) q5 q6 ?_
    refine g_iconst (v := 2) hC (dX12_matchOf_107) kc_2 ?_
    refine wpO_bJ h (fun KJ7 hKJ7 h => ?_)
    have hJ7 : ∀ (s0_121 : Int32), KJ7 s0_121 → G E Γ 8 121 [(0, .ref 36), (1, .ref x1)] [.int s0_121, .int 4, .ref 46] M98 := by
      intro s0_121 h
      have h := hKJ7 _ h
      refine g_iastore (n := 6) hC (dX12_matchOf_121) rfl (by decide) ?_
      refine g_nmM (fun M121 e_M121 => ?_)
      have h := wpO_n e_M121 h
      refine g_aload_n (i := 0) (x := 36) hC (dX12_matchOf_122) rfl rfl ?_
      refine g_getR (r := 46) hC flX12_46 (dX12_matchOf_123) rfl rfl rfl ?_
      refine g_iconst (v := 5) hC (dX12_matchOf_126) kc_5 ?_
      refine g_aload_n (i := 1) (x := x1) hC (dX12_matchOf_127) rfl rfl ?_
      refine g_bipush (v := 24) hC (dX12_matchOf_128) kb_24 ?_
      obtain ⟨q9, h⟩ := wpO_g h
      refine g_iaload (n := (zLen x1)) hC (dX12_matchOf_130) q5 q9 ?_
      refine g_bipush (v := 7) hC (dX12_matchOf_131) kb_7 ?_
      refine g_irem hC (dX12_matchOf_133) (by decide) ?_
      refine g_iastore (n := 6) hC (dX12_matchOf_134) rfl (by decide) ?_
      refine g_nmM (fun M134 e_M134 => ?_)
      have h := wpO_n e_M134 h
      refine g_aload_n (i := 0) (x := 36) hC (dX12_matchOf_135) rfl rfl ?_
      refine g_aload_n (i := 0) (x := 36) hC (dX12_matchOf_136) rfl rfl ?_
      obtain ⟨a10, q11, h⟩ := wpO_d h
      refine g_getD hC flX12_40 (dX12_matchOf_137) rfl rfl q11 ?_
      refine g_aload_n (i := 0) (x := 36) hC (dX12_matchOf_140) rfl rfl ?_
      refine g_getI hC flX12_193 (dX12_matchOf_141) rfl rfl ?_
      refine g_bipush (v := 40) hC (dX12_matchOf_144) kb_40 ?_
      refine g_callVv ([.ref a10, .int (M134.1 36 21), .int 40]) hC wvX12_120 (dX12_matchOf_146) rfl rfl (by omega) (Nat.le_of_ble_eq_true rfl) (cX12_begin_ok (by omega) a10 (M134.1 36 21) 40 M134 (K := fun r => r = fX12_begin a10 (M134.1 36 21) 40 M134) rfl) (fun N q => ?_)
      subst q
      refine g_nmM (fun M146 e_M146 => ?_)
      have h := wpO_n e_M146 h
      refine g_aload_n (i := 0) (x := 36) hC (dX12_matchOf_149) rfl rfl ?_
      refine g_iconst (v := 1) hC (dX12_matchOf_150) kc_1 ?_
      refine g_putI hC fpX12_186 (dX12_matchOf_151) rfl rfl rfl rfl ?_
      refine g_nmM (fun M151 e_M151 => ?_)
      have h := wpO_n e_M151 h
      refine g_aload_n (i := 0) (x := 36) hC (dX12_matchOf_154) rfl rfl ?_
      refine g_iconst (v := 0) hC (dX12_matchOf_155) kc_0 ?_
      have h := wpO_b h
      refine g_callVi ([.int 0]) hC wvX12_173 (dX12_matchOf_156) rfl rfl (by omega) (Nat.le_of_ble_eq_true rfl) (cX12_grp0 (by omega) 0 M151 h) (fun r13 M156 h => ?_)
      have h := wpO_p h
      refine g_istore (i := 7) (lv2 := [(7, .int r13), (0, .ref 36), (1, .ref x1)]) hC (dX12_matchOf_159) (by decide) rfl ?_
      refine g_aload_n (i := 0) (x := 36) hC (dX12_matchOf_161) rfl rfl ?_
      refine g_iconst (v := 0) hC (dX12_matchOf_162) kc_0 ?_
      refine g_putI hC fpX12_186 (dX12_matchOf_163) rfl rfl rfl rfl ?_
      refine g_nmM (fun M163 e_M163 => ?_)
      have h := wpO_n e_M163 h
      refine g_iload (i := 7) (x := r13) hC (dX12_matchOf_166) rfl ?_
      refine g_ireturn hC hr (dX12_matchOf_168) ?_
      exact wpO_s h
    refine g_icmp_ne (tgt := 120) hC (dX12_matchOf_108) (by decide) (fun c108 => ?_) (fun c108 => ?_)
    · have h := wpO_f c108 h
      refine g_iconst (v := 0) hC (dX12_matchOf_120) kc_0 ?_
      refine g_sub (lv' := [(0, .ref 36), (1, .ref x1)]) [3, 4] rfl ?_
      exact hJ7 _ (wpO_s h)
    · have h := wpO_t c108 h
      refine g_aload_n (i := 1) (x := x1) hC (dX12_matchOf_111) rfl rfl ?_
      refine g_bipush (v := 16) hC (dX12_matchOf_112) kb_16 ?_
      refine g_iload_n (i := 3) (x := x3) hC (dX12_matchOf_114) rfl rfl ?_
      refine g_iadd hC (dX12_matchOf_115) ?_
      obtain ⟨q8, h⟩ := wpO_g h
      refine g_iaload (n := (zLen x1)) hC (dX12_matchOf_116) q5 q8 ?_
      refine g_goto (tgt := 121) hC (dX12_matchOf_117) (by decide) ?_
      refine g_sub (lv' := [(0, .ref 36), (1, .ref x1)]) [3, 4] rfl ?_
      exact hJ7 _ (wpO_s h)
  · have h := wpO_t c47 h
    refine g_iload (i := 4) (x := x4_11) hC (dX12_matchOf_50) rfl ?_
    refine g_iconst (v := 2) hC (dX12_matchOf_52) kc_2 ?_
    refine g_imul hC (dX12_matchOf_53) ?_
    refine g_iload (i := 5) (x := x5_26) hC (dX12_matchOf_54) rfl ?_
    refine g_iconst (v := 3) hC (dX12_matchOf_56) kc_3 ?_
    refine g_imul hC (dX12_matchOf_57) ?_
    refine g_isub hC (dX12_matchOf_58) ?_
    refine g_iload (i := 6) (x := x6_41) hC (dX12_matchOf_59) rfl ?_
    refine g_isub hC (dX12_matchOf_61) ?_
    refine g_ireturn hC hr (dX12_matchOf_62) ?_
    exact wpO_s h
/-! LostByStateModel.put(I)I -/
theorem dX12_put_0 : decode cX12_put 0 = .ok (.sipush (-999), 3) := by decide +kernel
theorem dX12_put_3 : decode cX12_put 3 = .ok (.sipush 999, 3) := by decide +kernel
theorem dX12_put_6 : decode cX12_put 6 = .ok (.iload_n 0, 1) := by decide +kernel
theorem dX12_put_7 : decode cX12_put 7 = .ok (.invokestatic 201, 3) := by decide +kernel
theorem dX12_put_10 : decode cX12_put 10 = .ok (.invokestatic 206, 3) := by decide +kernel
theorem dX12_put_13 : decode cX12_put 13 = .ok (.ireturn, 1) := by decide +kernel
def fX12_put (x0 : Int32) : Int32 := (zmax (-999) (zmin 999 x0))
set_option maxHeartbeats 4000000 in
theorem cX12_put_ok {E : zE} {d : Nat} (hd : 1 ≤ d) (x0 : Int32) (M : zM) {K : Int32 → Prop} (h : wpI (fX12_put x0) K) : CMi E d yX12_put cX12_put 1 (some .int) [.int x0] M (fun r N => M = N ∧ K r) := by
  refine CMi.of (by decide) (Nat.le_of_ble_eq_true rfl) (fun Γ hC hr => ?_)
  have hC : Cx E Γ RX12 cX12_put 1 d := hC
  show G E Γ 1 0 [(0, .int x0)] [] M
  unfold fX12_put at h
  refine g_sipush (v := (-999)) hC (dX12_put_0) ks_m999 ?_
  refine g_sipush (v := 999) hC (dX12_put_3) ks_999 ?_
  refine g_iload_n (i := 0) (x := x0) hC (dX12_put_6) rfl rfl ?_
  refine g_min hC wmX12_201 (dX12_put_7) (by omega) (Nat.le_of_ble_eq_true rfl) ?_
  refine g_max hC wmX12_206 (dX12_put_10) (by omega) (Nat.le_of_ble_eq_true rfl) ?_
  refine g_ireturn hC hr (dX12_put_13) ?_
  exact ⟨rfl, wpI_s h⟩
/-! LostByStateModel.those([II)I -/
theorem dX12_those_0 : decode cX12_those 0 = .ok (.iconst 0, 1) := by decide +kernel
theorem dX12_those_1 : decode cX12_those 1 = .ok (.istore_n 3, 1) := by decide +kernel
theorem dX12_those_2 : decode cX12_those 2 = .ok (.iconst 0, 1) := by decide +kernel
theorem dX12_those_3 : decode cX12_those 3 = .ok (.istore 4, 2) := by decide +kernel
theorem dX12_those_5 : decode cX12_those 5 = .ok (.iload 4, 2) := by decide +kernel
theorem dX12_those_7 : decode cX12_those 7 = .ok (.aload_n 0, 1) := by decide +kernel
theorem dX12_those_8 : decode cX12_those 8 = .ok (.getfield 92, 3) := by decide +kernel
theorem dX12_those_11 : decode cX12_those 11 = .ok (.if_icmp .ge 28, 3) := by decide +kernel
theorem dX12_those_14 : decode cX12_those 14 = .ok (.iload_n 3, 1) := by decide +kernel
theorem dX12_those_15 : decode cX12_those 15 = .ok (.aload_n 1, 1) := by decide +kernel
theorem dX12_those_16 : decode cX12_those 16 = .ok (.iload 4, 2) := by decide +kernel
theorem dX12_those_18 : decode cX12_those 18 = .ok (.iaload, 1) := by decide +kernel
theorem dX12_those_19 : decode cX12_those 19 = .ok (.iload_n 2, 1) := by decide +kernel
theorem dX12_those_20 : decode cX12_those 20 = .ok (.if_icmp .ne 10, 3) := by decide +kernel
theorem dX12_those_23 : decode cX12_those 23 = .ok (.iconst 1, 1) := by decide +kernel
theorem dX12_those_24 : decode cX12_those 24 = .ok (.iload 4, 2) := by decide +kernel
theorem dX12_those_26 : decode cX12_those 26 = .ok (.ishl, 1) := by decide +kernel
theorem dX12_those_27 : decode cX12_those 27 = .ok (.goto 4, 3) := by decide +kernel
theorem dX12_those_30 : decode cX12_those 30 = .ok (.iconst 0, 1) := by decide +kernel
theorem dX12_those_31 : decode cX12_those 31 = .ok (.ior, 1) := by decide +kernel
theorem dX12_those_32 : decode cX12_those 32 = .ok (.istore_n 3, 1) := by decide +kernel
theorem dX12_those_33 : decode cX12_those 33 = .ok (.iinc 4 1, 3) := by decide +kernel
theorem dX12_those_36 : decode cX12_those 36 = .ok (.goto (-31), 3) := by decide +kernel
theorem dX12_those_39 : decode cX12_those 39 = .ok (.iload_n 3, 1) := by decide +kernel
theorem dX12_those_40 : decode cX12_those 40 = .ok (.ireturn, 1) := by decide +kernel
def fX12_those_L5 (x1 : Nat) (x2 : Int32) (M : zM) : Nat → Int32 → Int32 → Option Int32
  | 0, _, _ => none
  | n + 1, x3, x4 => if (M.1 36 1) ≤ x4 then (
    some x3)
    else (
    if zSH x1 = .inr (0, zLen x1) then (
    if zin x4 (zLen x1) then (
    zlet (if (M.1 x1 x4.toNatClampNeg) = x2 then (
    (zshl 1 x4))
    else (
    0)) fun (s0_31 : Int32) =>
    zlet (x3 ||| s0_31) fun (x3_32 : Int32) =>
    fX12_those_L5 x1 x2 M n x3_32 (x4 + 1)) else none) else none)
def fX12_those (x1 : Nat) (x2 : Int32) (M : zM) : Option Int32 := (fX12_those_L5 x1 x2 M 4000 0 0).bind fun (x3_39 : Int32) =>
  some x3_39
set_option maxHeartbeats 4000000 in
theorem lX12_those_5 {E : zE} {Γ : zT} {d : Nat} {K1 : Int32 → Prop} (hC : Cx E Γ RX12 cX12_those 5 d) (hd : 0 ≤ d) (x1 : Nat) (x2 : Int32) (M : zM) (hx : ∀ (x3_39 : Int32), K1 x3_39 → G E Γ 5 39 [(3, .int x3_39)] [] M) :
    ∀ (n : Nat) (x3 : Int32) (x4 : Int32), wpO (fX12_those_L5 x1 x2 M n x3 x4) K1 → G E Γ 5 5 [(0, .ref 36), (1, .ref x1), (2, .int x2), (3, .int x3), (4, .int x4)] [] M := by
  intro n
  induction n with
  | zero =>
    intro x3 x4 h
    exact (wpO_0 h).elim
  | succ n ih =>
    intro x3 x4 h
    rw [fX12_those_L5.eq_2] at h
    refine g_iload (i := 4) (x := x4) hC (dX12_those_5) rfl ?_
    refine g_aload_n (i := 0) (x := 36) hC (dX12_those_7) rfl rfl ?_
    refine g_getI hC flX12_92 (dX12_those_8) rfl rfl ?_
    refine g_icmp_ge (tgt := 39) hC (dX12_those_11) (by decide) (fun c11 => ?_) (fun c11 => ?_)
    · have h := wpO_t c11 h
      refine g_sub (lv' := [(3, .int x3)]) [3] rfl ?_
      exact hx _ (wpO_s h)
    · have h := wpO_f c11 h
      refine g_iload_n (i := 3) (x := x3) hC (dX12_those_14) rfl rfl ?_
      refine g_aload_n (i := 1) (x := x1) hC (dX12_those_15) rfl rfl ?_
      refine g_iload (i := 4) (x := x4) hC (dX12_those_16) rfl ?_
      obtain ⟨q1, h⟩ := wpO_g h
      obtain ⟨q2, h⟩ := wpO_g h
      refine g_iaload (n := (zLen x1)) hC (dX12_those_18) q1 q2 ?_
      refine g_iload_n (i := 2) (x := x2) hC (dX12_those_19) rfl rfl ?_
      obtain ⟨s0_31, e_s0_31, h⟩ := wpO_l h
      have hJ3 : G E Γ 5 31 [(0, .ref 36), (1, .ref x1), (2, .int x2), (4, .int x4)] [.int s0_31, .int x3] M := by
        refine g_ior hC (dX12_those_31) ?_
        refine g_nmi (fun x3_32 e_x3_32 => ?_)
        have h := wpO_n e_x3_32 h
        refine g_istore_n (i := 3) (lv2 := [(3, .int x3_32), (0, .ref 36), (1, .ref x1), (2, .int x2), (4, .int x4)]) hC (dX12_those_32) rfl (by decide) rfl ?_
        refine g_iinc (x := x4) (v := (x4 + 1)) (lv2 := [(4, .int (x4 + 1)), (3, .int x3_32), (0, .ref 36), (1, .ref x1), (2, .int x2)]) hC (dX12_those_33) rfl rfl (by decide) rfl ?_
        refine g_goto (tgt := 5) hC (dX12_those_36) (by decide) ?_
        refine g_sub (lv' := [(0, .ref 36), (1, .ref x1), (2, .int x2), (3, .int x3_32), (4, .int (x4 + 1))]) [2, 3, 4, 1, 0] rfl ?_
        exact ih _ _ h
      refine g_icmp_ne (tgt := 30) hC (dX12_those_20) (by decide) (fun c20 => ?_) (fun c20 => ?_)
      · rw [if_neg c20] at e_s0_31
        refine g_iconst (v := 0) hC (dX12_those_30) kc_0 ?_
        refine g_sub (lv' := [(0, .ref 36), (1, .ref x1), (2, .int x2), (4, .int x4)]) [0, 1, 2, 4] rfl ?_
        subst e_s0_31
        exact hJ3
      · rw [if_pos c20] at e_s0_31
        refine g_iconst (v := 1) hC (dX12_those_23) kc_1 ?_
        refine g_iload (i := 4) (x := x4) hC (dX12_those_24) rfl ?_
        refine g_ishl hC (dX12_those_26) ?_
        refine g_goto (tgt := 31) hC (dX12_those_27) (by decide) ?_
        refine g_sub (lv' := [(0, .ref 36), (1, .ref x1), (2, .int x2), (4, .int x4)]) [0, 1, 2, 4] rfl ?_
        subst e_s0_31
        exact hJ3
set_option maxHeartbeats 4000000 in
theorem cX12_those_ok {E : zE} {d : Nat} (hd : 0 ≤ d) (x1 : Nat) (x2 : Int32) (M : zM) {K : Int32 → Prop} (h : wpO (fX12_those x1 x2 M) K) : CMi E d yX12_those cX12_those 5 (some .int) [.ref 36, .ref x1, .int x2] M (fun r N => M = N ∧ K r) := by
  refine CMi.of (by decide) (Nat.le_of_ble_eq_true rfl) (fun Γ hC hr => ?_)
  have hC : Cx E Γ RX12 cX12_those 5 d := hC
  show G E Γ 5 0 [(0, .ref 36), (1, .ref x1), (2, .int x2)] [] M
  unfold fX12_those at h
  refine g_iconst (v := 0) hC (dX12_those_0) kc_0 ?_
  refine g_istore_n (i := 3) (lv2 := [(3, .int 0), (0, .ref 36), (1, .ref x1), (2, .int x2)]) hC (dX12_those_1) rfl (by decide) rfl ?_
  refine g_iconst (v := 0) hC (dX12_those_2) kc_0 ?_
  refine g_istore (i := 4) (lv2 := [(4, .int 0), (3, .int 0), (0, .ref 36), (1, .ref x1), (2, .int x2)]) hC (dX12_those_3) (by decide) rfl ?_
  refine g_sub (lv' := [(0, .ref 36), (1, .ref x1), (2, .int x2), (3, .int 0), (4, .int 0)]) [2, 3, 4, 1, 0] rfl ?_
  refine wpO_bJ h (fun KL5 hKL5 h => ?_)
  refine lX12_those_5 (K1 := KL5) hC (by omega) x1 x2 M (fun x3_39 h => ?_) _ _ _ h
  have h := hKL5 _ h
  refine g_iload_n (i := 3) (x := x3_39) hC (dX12_those_39) rfl rfl ?_
  refine g_ireturn hC hr (dX12_those_40) ?_
  exact ⟨rfl, wpO_s h⟩
/-! LostByStateModel.hadBy([II)I -/
theorem dX12_hadBy_0 : decode cX12_hadBy 0 = .ok (.iconst 0, 1) := by decide +kernel
theorem dX12_hadBy_1 : decode cX12_hadBy 1 = .ok (.istore_n 3, 1) := by decide +kernel
theorem dX12_hadBy_2 : decode cX12_hadBy 2 = .ok (.iconst 0, 1) := by decide +kernel
theorem dX12_hadBy_3 : decode cX12_hadBy 3 = .ok (.istore 4, 2) := by decide +kernel
theorem dX12_hadBy_5 : decode cX12_hadBy 5 = .ok (.iload 4, 2) := by decide +kernel
theorem dX12_hadBy_7 : decode cX12_hadBy 7 = .ok (.aload_n 0, 1) := by decide +kernel
theorem dX12_hadBy_8 : decode cX12_hadBy 8 = .ok (.getfield 92, 3) := by decide +kernel
theorem dX12_hadBy_11 : decode cX12_hadBy 11 = .ok (.if_icmp .ge 38, 3) := by decide +kernel
theorem dX12_hadBy_14 : decode cX12_hadBy 14 = .ok (.iload_n 3, 1) := by decide +kernel
theorem dX12_hadBy_15 : decode cX12_hadBy 15 = .ok (.aload_n 1, 1) := by decide +kernel
theorem dX12_hadBy_16 : decode cX12_hadBy 16 = .ok (.iload 4, 2) := by decide +kernel
theorem dX12_hadBy_18 : decode cX12_hadBy 18 = .ok (.iaload, 1) := by decide +kernel
theorem dX12_hadBy_19 : decode cX12_hadBy 19 = .ok (.ifCond .ne 21, 3) := by decide +kernel
theorem dX12_hadBy_22 : decode cX12_hadBy 22 = .ok (.aload_n 1, 1) := by decide +kernel
theorem dX12_hadBy_23 : decode cX12_hadBy 23 = .ok (.bipush 8, 2) := by decide +kernel
theorem dX12_hadBy_25 : decode cX12_hadBy 25 = .ok (.iload 4, 2) := by decide +kernel
theorem dX12_hadBy_27 : decode cX12_hadBy 27 = .ok (.iadd, 1) := by decide +kernel
theorem dX12_hadBy_28 : decode cX12_hadBy 28 = .ok (.iaload, 1) := by decide +kernel
theorem dX12_hadBy_29 : decode cX12_hadBy 29 = .ok (.iload_n 2, 1) := by decide +kernel
theorem dX12_hadBy_30 : decode cX12_hadBy 30 = .ok (.if_icmp .ne 10, 3) := by decide +kernel
theorem dX12_hadBy_33 : decode cX12_hadBy 33 = .ok (.iconst 1, 1) := by decide +kernel
theorem dX12_hadBy_34 : decode cX12_hadBy 34 = .ok (.iload 4, 2) := by decide +kernel
theorem dX12_hadBy_36 : decode cX12_hadBy 36 = .ok (.ishl, 1) := by decide +kernel
theorem dX12_hadBy_37 : decode cX12_hadBy 37 = .ok (.goto 4, 3) := by decide +kernel
theorem dX12_hadBy_40 : decode cX12_hadBy 40 = .ok (.iconst 0, 1) := by decide +kernel
theorem dX12_hadBy_41 : decode cX12_hadBy 41 = .ok (.ior, 1) := by decide +kernel
theorem dX12_hadBy_42 : decode cX12_hadBy 42 = .ok (.istore_n 3, 1) := by decide +kernel
theorem dX12_hadBy_43 : decode cX12_hadBy 43 = .ok (.iinc 4 1, 3) := by decide +kernel
theorem dX12_hadBy_46 : decode cX12_hadBy 46 = .ok (.goto (-41), 3) := by decide +kernel
theorem dX12_hadBy_49 : decode cX12_hadBy 49 = .ok (.iload_n 3, 1) := by decide +kernel
theorem dX12_hadBy_50 : decode cX12_hadBy 50 = .ok (.ireturn, 1) := by decide +kernel
def fX12_hadBy_L5 (x1 : Nat) (x2 : Int32) (M : zM) : Nat → Int32 → Int32 → Option Int32
  | 0, _, _ => none
  | n + 1, x3, x4 => if (M.1 36 1) ≤ x4 then (
    some x3)
    else (
    if zSH x1 = .inr (0, zLen x1) then (
    if zin x4 (zLen x1) then (
    (if (M.1 x1 x4.toNatClampNeg) = 0 then (
    if zin (8 + x4) (zLen x1) then (
    if (M.1 x1 (8 + x4).toNatClampNeg) = x2 then (
    some (zshl 1 x4))
    else (
    some 0)) else none)
    else (
    some 0) : Option Int32).bind fun (s0_41 : Int32) =>
    zlet (x3 ||| s0_41) fun (x3_42 : Int32) =>
    fX12_hadBy_L5 x1 x2 M n x3_42 (x4 + 1)) else none) else none)
def fX12_hadBy (x1 : Nat) (x2 : Int32) (M : zM) : Option Int32 := (fX12_hadBy_L5 x1 x2 M 4000 0 0).bind fun (x3_49 : Int32) =>
  some x3_49
set_option maxHeartbeats 4000000 in
theorem lX12_hadBy_5 {E : zE} {Γ : zT} {d : Nat} {K1 : Int32 → Prop} (hC : Cx E Γ RX12 cX12_hadBy 5 d) (hd : 0 ≤ d) (x1 : Nat) (x2 : Int32) (M : zM) (hx : ∀ (x3_49 : Int32), K1 x3_49 → G E Γ 5 49 [(3, .int x3_49)] [] M) :
    ∀ (n : Nat) (x3 : Int32) (x4 : Int32), wpO (fX12_hadBy_L5 x1 x2 M n x3 x4) K1 → G E Γ 5 5 [(0, .ref 36), (1, .ref x1), (2, .int x2), (3, .int x3), (4, .int x4)] [] M := by
  intro n
  induction n with
  | zero =>
    intro x3 x4 h
    exact (wpO_0 h).elim
  | succ n ih =>
    intro x3 x4 h
    rw [fX12_hadBy_L5.eq_2] at h
    refine g_iload (i := 4) (x := x4) hC (dX12_hadBy_5) rfl ?_
    refine g_aload_n (i := 0) (x := 36) hC (dX12_hadBy_7) rfl rfl ?_
    refine g_getI hC flX12_92 (dX12_hadBy_8) rfl rfl ?_
    refine g_icmp_ge (tgt := 49) hC (dX12_hadBy_11) (by decide) (fun c11 => ?_) (fun c11 => ?_)
    · have h := wpO_t c11 h
      refine g_sub (lv' := [(3, .int x3)]) [3] rfl ?_
      exact hx _ (wpO_s h)
    · have h := wpO_f c11 h
      refine g_iload_n (i := 3) (x := x3) hC (dX12_hadBy_14) rfl rfl ?_
      refine g_aload_n (i := 1) (x := x1) hC (dX12_hadBy_15) rfl rfl ?_
      refine g_iload (i := 4) (x := x4) hC (dX12_hadBy_16) rfl ?_
      obtain ⟨q1, h⟩ := wpO_g h
      obtain ⟨q2, h⟩ := wpO_g h
      refine g_iaload (n := (zLen x1)) hC (dX12_hadBy_18) q1 q2 ?_
      refine wpO_bJ h (fun KJ3 hKJ3 h => ?_)
      have hJ3 : ∀ (s0_41 : Int32), KJ3 s0_41 → G E Γ 5 41 [(0, .ref 36), (1, .ref x1), (2, .int x2), (4, .int x4)] [.int s0_41, .int x3] M := by
        intro s0_41 h
        have h := hKJ3 _ h
        refine g_ior hC (dX12_hadBy_41) ?_
        refine g_nmi (fun x3_42 e_x3_42 => ?_)
        have h := wpO_n e_x3_42 h
        refine g_istore_n (i := 3) (lv2 := [(3, .int x3_42), (0, .ref 36), (1, .ref x1), (2, .int x2), (4, .int x4)]) hC (dX12_hadBy_42) rfl (by decide) rfl ?_
        refine g_iinc (x := x4) (v := (x4 + 1)) (lv2 := [(4, .int (x4 + 1)), (3, .int x3_42), (0, .ref 36), (1, .ref x1), (2, .int x2)]) hC (dX12_hadBy_43) rfl rfl (by decide) rfl ?_
        refine g_goto (tgt := 5) hC (dX12_hadBy_46) (by decide) ?_
        refine g_sub (lv' := [(0, .ref 36), (1, .ref x1), (2, .int x2), (3, .int x3_42), (4, .int (x4 + 1))]) [2, 3, 4, 1, 0] rfl ?_
        exact ih _ _ h
      refine g_if_ne (tgt := 40) hC (dX12_hadBy_19) (by decide) (fun c19 => ?_) (fun c19 => ?_)
      · have h := wpO_f c19 h
        refine g_iconst (v := 0) hC (dX12_hadBy_40) kc_0 ?_
        refine g_sub (lv' := [(0, .ref 36), (1, .ref x1), (2, .int x2), (4, .int x4)]) [0, 1, 2, 4] rfl ?_
        exact hJ3 _ (wpO_s h)
      · have h := wpO_t c19 h
        refine g_aload_n (i := 1) (x := x1) hC (dX12_hadBy_22) rfl rfl ?_
        refine g_bipush (v := 8) hC (dX12_hadBy_23) kb_8 ?_
        refine g_iload (i := 4) (x := x4) hC (dX12_hadBy_25) rfl ?_
        refine g_iadd hC (dX12_hadBy_27) ?_
        obtain ⟨q4, h⟩ := wpO_g h
        refine g_iaload (n := (zLen x1)) hC (dX12_hadBy_28) q1 q4 ?_
        refine g_iload_n (i := 2) (x := x2) hC (dX12_hadBy_29) rfl rfl ?_
        refine g_icmp_ne (tgt := 40) hC (dX12_hadBy_30) (by decide) (fun c30 => ?_) (fun c30 => ?_)
        · have h := wpO_f c30 h
          refine g_iconst (v := 0) hC (dX12_hadBy_40) kc_0 ?_
          refine g_sub (lv' := [(0, .ref 36), (1, .ref x1), (2, .int x2), (4, .int x4)]) [0, 1, 2, 4] rfl ?_
          exact hJ3 _ (wpO_s h)
        · have h := wpO_t c30 h
          refine g_iconst (v := 1) hC (dX12_hadBy_33) kc_1 ?_
          refine g_iload (i := 4) (x := x4) hC (dX12_hadBy_34) rfl ?_
          refine g_ishl hC (dX12_hadBy_36) ?_
          refine g_goto (tgt := 41) hC (dX12_hadBy_37) (by decide) ?_
          refine g_sub (lv' := [(0, .ref 36), (1, .ref x1), (2, .int x2), (4, .int x4)]) [0, 1, 2, 4] rfl ?_
          exact hJ3 _ (wpO_s h)
set_option maxHeartbeats 4000000 in
theorem cX12_hadBy_ok {E : zE} {d : Nat} (hd : 0 ≤ d) (x1 : Nat) (x2 : Int32) (M : zM) {K : Int32 → Prop} (h : wpO (fX12_hadBy x1 x2 M) K) : CMi E d yX12_hadBy cX12_hadBy 5 (some .int) [.ref 36, .ref x1, .int x2] M (fun r N => M = N ∧ K r) := by
  refine CMi.of (by decide) (Nat.le_of_ble_eq_true rfl) (fun Γ hC hr => ?_)
  have hC : Cx E Γ RX12 cX12_hadBy 5 d := hC
  show G E Γ 5 0 [(0, .ref 36), (1, .ref x1), (2, .int x2)] [] M
  unfold fX12_hadBy at h
  refine g_iconst (v := 0) hC (dX12_hadBy_0) kc_0 ?_
  refine g_istore_n (i := 3) (lv2 := [(3, .int 0), (0, .ref 36), (1, .ref x1), (2, .int x2)]) hC (dX12_hadBy_1) rfl (by decide) rfl ?_
  refine g_iconst (v := 0) hC (dX12_hadBy_2) kc_0 ?_
  refine g_istore (i := 4) (lv2 := [(4, .int 0), (3, .int 0), (0, .ref 36), (1, .ref x1), (2, .int x2)]) hC (dX12_hadBy_3) (by decide) rfl ?_
  refine g_sub (lv' := [(0, .ref 36), (1, .ref x1), (2, .int x2), (3, .int 0), (4, .int 0)]) [2, 3, 4, 1, 0] rfl ?_
  refine wpO_bJ h (fun KL5 hKL5 h => ?_)
  refine lX12_hadBy_5 (K1 := KL5) hC (by omega) x1 x2 M (fun x3_49 h => ?_) _ _ _ h
  have h := hKL5 _ h
  refine g_iload_n (i := 3) (x := x3_49) hC (dX12_hadBy_49) rfl rfl ?_
  refine g_ireturn hC hr (dX12_hadBy_50) ?_
  exact ⟨rfl, wpO_s h⟩
/-! LostByStateModel.byPeople([I)I -/
theorem dX12_byPeople_0 : decode cX12_byPeople 0 = .ok (.aload_n 0, 1) := by decide +kernel
theorem dX12_byPeople_1 : decode cX12_byPeople 1 = .ok (.aload_n 1, 1) := by decide +kernel
theorem dX12_byPeople_2 : decode cX12_byPeople 2 = .ok (.iconst 0, 1) := by decide +kernel
theorem dX12_byPeople_3 : decode cX12_byPeople 3 = .ok (.invokevirtual 209, 3) := by decide +kernel
theorem dX12_byPeople_6 : decode cX12_byPeople 6 = .ok (.aload_n 0, 1) := by decide +kernel
theorem dX12_byPeople_7 : decode cX12_byPeople 7 = .ok (.aload_n 1, 1) := by decide +kernel
theorem dX12_byPeople_8 : decode cX12_byPeople 8 = .ok (.bipush 6, 2) := by decide +kernel
theorem dX12_byPeople_10 : decode cX12_byPeople 10 = .ok (.invokevirtual 213, 3) := by decide +kernel
theorem dX12_byPeople_13 : decode cX12_byPeople 13 = .ok (.iconst (-1), 1) := by decide +kernel
theorem dX12_byPeople_14 : decode cX12_byPeople 14 = .ok (.ixor, 1) := by decide +kernel
theorem dX12_byPeople_15 : decode cX12_byPeople 15 = .ok (.iand, 1) := by decide +kernel
theorem dX12_byPeople_16 : decode cX12_byPeople 16 = .ok (.ireturn, 1) := by decide +kernel
def fX12_byPeople (x1 : Nat) (M : zM) : Option Int32 := (fX12_those x1 0 M).bind fun (r1 : Int32) =>
  (fX12_hadBy x1 6 M).bind fun (r2 : Int32) =>
  some (r1 &&& (r2 ^^^ (-1)))
set_option maxHeartbeats 4000000 in
theorem cX12_byPeople_ok {E : zE} {d : Nat} (hd : 1 ≤ d) (x1 : Nat) (M : zM) {K : Int32 → Prop} (h : wpO (fX12_byPeople x1 M) K) : CMi E d yX12_byPeople cX12_byPeople 2 (some .int) [.ref 36, .ref x1] M (fun r N => M = N ∧ K r) := by
  refine CMi.of (by decide) (Nat.le_of_ble_eq_true rfl) (fun Γ hC hr => ?_)
  have hC : Cx E Γ RX12 cX12_byPeople 2 d := hC
  show G E Γ 2 0 [(0, .ref 36), (1, .ref x1)] [] M
  unfold fX12_byPeople at h
  refine g_aload_n (i := 0) (x := 36) hC (dX12_byPeople_0) rfl rfl ?_
  refine g_aload_n (i := 1) (x := x1) hC (dX12_byPeople_1) rfl rfl ?_
  refine g_iconst (v := 0) hC (dX12_byPeople_2) kc_0 ?_
  have h := wpO_b h
  refine g_callVi ([.ref x1, .int 0]) hC wvX12_209 (dX12_byPeople_3) rfl rfl (by omega) (Nat.le_of_ble_eq_true rfl) (cX12_those_ok (by omega) x1 0 M h) (fun r1 N q => ?_)
  obtain ⟨rfl, h⟩ := q
  refine g_aload_n (i := 0) (x := 36) hC (dX12_byPeople_6) rfl rfl ?_
  refine g_aload_n (i := 1) (x := x1) hC (dX12_byPeople_7) rfl rfl ?_
  refine g_bipush (v := 6) hC (dX12_byPeople_8) kb_6 ?_
  have h := wpO_b h
  refine g_callVi ([.ref x1, .int 6]) hC wvX12_213 (dX12_byPeople_10) rfl rfl (by omega) (Nat.le_of_ble_eq_true rfl) (cX12_hadBy_ok (by omega) x1 6 M h) (fun r2 N q => ?_)
  obtain ⟨rfl, h⟩ := q
  refine g_iconst (v := (-1)) hC (dX12_byPeople_13) kc_m1 ?_
  refine g_ixor hC (dX12_byPeople_14) ?_
  refine g_iand hC (dX12_byPeople_15) ?_
  refine g_ireturn hC hr (dX12_byPeople_16) ?_
  exact ⟨rfl, wpO_s h⟩
/-! LostByStateModel.worthOf(I)I -/
theorem dX12_worthOf_0 : decode cX12_worthOf 0 = .ok (.iconst 0, 1) := by decide +kernel
theorem dX12_worthOf_1 : decode cX12_worthOf 1 = .ok (.istore_n 2, 1) := by decide +kernel
theorem dX12_worthOf_2 : decode cX12_worthOf 2 = .ok (.iconst 0, 1) := by decide +kernel
theorem dX12_worthOf_3 : decode cX12_worthOf 3 = .ok (.istore_n 3, 1) := by decide +kernel
theorem dX12_worthOf_4 : decode cX12_worthOf 4 = .ok (.iload_n 3, 1) := by decide +kernel
theorem dX12_worthOf_5 : decode cX12_worthOf 5 = .ok (.aload_n 0, 1) := by decide +kernel
theorem dX12_worthOf_6 : decode cX12_worthOf 6 = .ok (.getfield 92, 3) := by decide +kernel
theorem dX12_worthOf_9 : decode cX12_worthOf 9 = .ok (.if_icmp .ge 30, 3) := by decide +kernel
theorem dX12_worthOf_12 : decode cX12_worthOf 12 = .ok (.iload_n 2, 1) := by decide +kernel
theorem dX12_worthOf_13 : decode cX12_worthOf 13 = .ok (.iload_n 1, 1) := by decide +kernel
theorem dX12_worthOf_14 : decode cX12_worthOf 14 = .ok (.iload_n 3, 1) := by decide +kernel
theorem dX12_worthOf_15 : decode cX12_worthOf 15 = .ok (.invokestatic 216, 3) := by decide +kernel
theorem dX12_worthOf_18 : decode cX12_worthOf 18 = .ok (.ifCond .eq 12, 3) := by decide +kernel
theorem dX12_worthOf_21 : decode cX12_worthOf 21 = .ok (.aload_n 0, 1) := by decide +kernel
theorem dX12_worthOf_22 : decode cX12_worthOf 22 = .ok (.getfield 23, 3) := by decide +kernel
theorem dX12_worthOf_25 : decode cX12_worthOf 25 = .ok (.iload_n 3, 1) := by decide +kernel
theorem dX12_worthOf_26 : decode cX12_worthOf 26 = .ok (.iaload, 1) := by decide +kernel
theorem dX12_worthOf_27 : decode cX12_worthOf 27 = .ok (.goto 4, 3) := by decide +kernel
theorem dX12_worthOf_30 : decode cX12_worthOf 30 = .ok (.iconst 0, 1) := by decide +kernel
theorem dX12_worthOf_31 : decode cX12_worthOf 31 = .ok (.iadd, 1) := by decide +kernel
theorem dX12_worthOf_32 : decode cX12_worthOf 32 = .ok (.istore_n 2, 1) := by decide +kernel
theorem dX12_worthOf_33 : decode cX12_worthOf 33 = .ok (.iinc 3 1, 3) := by decide +kernel
theorem dX12_worthOf_36 : decode cX12_worthOf 36 = .ok (.goto (-32), 3) := by decide +kernel
theorem dX12_worthOf_39 : decode cX12_worthOf 39 = .ok (.iload_n 2, 1) := by decide +kernel
theorem dX12_worthOf_40 : decode cX12_worthOf 40 = .ok (.ireturn, 1) := by decide +kernel
def fX12_worthOf_L4 (x1 : Int32) (M : zM) : Nat → Int32 → Int32 → Option Int32
  | 0, _, _ => none
  | n + 1, x2, x3 => if (M.1 36 1) ≤ x3 then (
    some x2)
    else (
    (if (fX12_has x1 x3) = 0 then (
    some 0)
    else (
    if zin x3 8 then (
    some (M.1 39 x3.toNatClampNeg)) else none) : Option Int32).bind fun (s0_31 : Int32) =>
    zlet (x2 + s0_31) fun (x2_32 : Int32) =>
    fX12_worthOf_L4 x1 M n x2_32 (x3 + 1))
def fX12_worthOf (x1 : Int32) (M : zM) : Option Int32 := (fX12_worthOf_L4 x1 M 4000 0 0).bind fun (x2_39 : Int32) =>
  some x2_39
set_option maxHeartbeats 4000000 in
theorem lX12_worthOf_4 {E : zE} {Γ : zT} {d : Nat} {K1 : Int32 → Prop} (hC : Cx E Γ RX12 cX12_worthOf 4 d) (hd : 1 ≤ d) (x1 : Int32) (M : zM) (hx : ∀ (x2_39 : Int32), K1 x2_39 → G E Γ 4 39 [(2, .int x2_39)] [] M) :
    ∀ (n : Nat) (x2 : Int32) (x3 : Int32), wpO (fX12_worthOf_L4 x1 M n x2 x3) K1 → G E Γ 4 4 [(0, .ref 36), (1, .int x1), (2, .int x2), (3, .int x3)] [] M := by
  intro n
  induction n with
  | zero =>
    intro x2 x3 h
    exact (wpO_0 h).elim
  | succ n ih =>
    intro x2 x3 h
    rw [fX12_worthOf_L4.eq_2] at h
    refine g_iload_n (i := 3) (x := x3) hC (dX12_worthOf_4) rfl rfl ?_
    refine g_aload_n (i := 0) (x := 36) hC (dX12_worthOf_5) rfl rfl ?_
    refine g_getI hC flX12_92 (dX12_worthOf_6) rfl rfl ?_
    refine g_icmp_ge (tgt := 39) hC (dX12_worthOf_9) (by decide) (fun c9 => ?_) (fun c9 => ?_)
    · have h := wpO_t c9 h
      refine g_sub (lv' := [(2, .int x2)]) [2] rfl ?_
      exact hx _ (wpO_s h)
    · have h := wpO_f c9 h
      refine g_iload_n (i := 2) (x := x2) hC (dX12_worthOf_12) rfl rfl ?_
      refine g_iload_n (i := 1) (x := x1) hC (dX12_worthOf_13) rfl rfl ?_
      refine g_iload_n (i := 3) (x := x3) hC (dX12_worthOf_14) rfl rfl ?_
      refine g_callSi ([.int x1, .int x3]) hC wsX12_216 (dX12_worthOf_15) rfl (by omega) (Nat.le_of_ble_eq_true rfl) (cX12_has_ok (by omega) x1 x3 M (K := fun r => r = fX12_has x1 x3) rfl) (fun r N q => ?_)
      obtain ⟨rfl, rfl⟩ := q
      refine wpO_bJ h (fun KJ2 hKJ2 h => ?_)
      have hJ2 : ∀ (s0_31 : Int32), KJ2 s0_31 → G E Γ 4 31 [(0, .ref 36), (1, .int x1), (3, .int x3)] [.int s0_31, .int x2] M := by
        intro s0_31 h
        have h := hKJ2 _ h
        refine g_iadd hC (dX12_worthOf_31) ?_
        refine g_nmi (fun x2_32 e_x2_32 => ?_)
        have h := wpO_n e_x2_32 h
        refine g_istore_n (i := 2) (lv2 := [(2, .int x2_32), (0, .ref 36), (1, .int x1), (3, .int x3)]) hC (dX12_worthOf_32) rfl (by decide) rfl ?_
        refine g_iinc (x := x3) (v := (x3 + 1)) (lv2 := [(3, .int (x3 + 1)), (2, .int x2_32), (0, .ref 36), (1, .int x1)]) hC (dX12_worthOf_33) rfl rfl (by decide) rfl ?_
        refine g_goto (tgt := 4) hC (dX12_worthOf_36) (by decide) ?_
        refine g_sub (lv' := [(0, .ref 36), (1, .int x1), (2, .int x2_32), (3, .int (x3 + 1))]) [2, 3, 1, 0] rfl ?_
        exact ih _ _ h
      refine g_if_eq (tgt := 30) hC (dX12_worthOf_18) (by decide) (fun c18 => ?_) (fun c18 => ?_)
      · have h := wpO_t c18 h
        refine g_iconst (v := 0) hC (dX12_worthOf_30) kc_0 ?_
        refine g_sub (lv' := [(0, .ref 36), (1, .int x1), (3, .int x3)]) [0, 1, 3] rfl ?_
        exact hJ2 _ (wpO_s h)
      · have h := wpO_f c18 h
        refine g_aload_n (i := 0) (x := 36) hC (dX12_worthOf_21) rfl rfl ?_
        refine g_getR (r := 39) hC flX12_23 (dX12_worthOf_22) rfl rfl rfl ?_
        refine g_iload_n (i := 3) (x := x3) hC (dX12_worthOf_25) rfl rfl ?_
        obtain ⟨q3, h⟩ := wpO_g h
        refine g_iaload (n := 8) hC (dX12_worthOf_26) rfl q3 ?_
        refine g_goto (tgt := 31) hC (dX12_worthOf_27) (by decide) ?_
        refine g_sub (lv' := [(0, .ref 36), (1, .int x1), (3, .int x3)]) [0, 1, 3] rfl ?_
        exact hJ2 _ (wpO_s h)
set_option maxHeartbeats 4000000 in
theorem cX12_worthOf_ok {E : zE} {d : Nat} (hd : 1 ≤ d) (x1 : Int32) (M : zM) {K : Int32 → Prop} (h : wpO (fX12_worthOf x1 M) K) : CMi E d yX12_worthOf cX12_worthOf 4 (some .int) [.ref 36, .int x1] M (fun r N => M = N ∧ K r) := by
  refine CMi.of (by decide) (Nat.le_of_ble_eq_true rfl) (fun Γ hC hr => ?_)
  have hC : Cx E Γ RX12 cX12_worthOf 4 d := hC
  show G E Γ 4 0 [(0, .ref 36), (1, .int x1)] [] M
  unfold fX12_worthOf at h
  refine g_iconst (v := 0) hC (dX12_worthOf_0) kc_0 ?_
  refine g_istore_n (i := 2) (lv2 := [(2, .int 0), (0, .ref 36), (1, .int x1)]) hC (dX12_worthOf_1) rfl (by decide) rfl ?_
  refine g_iconst (v := 0) hC (dX12_worthOf_2) kc_0 ?_
  refine g_istore_n (i := 3) (lv2 := [(3, .int 0), (2, .int 0), (0, .ref 36), (1, .int x1)]) hC (dX12_worthOf_3) rfl (by decide) rfl ?_
  refine g_sub (lv' := [(0, .ref 36), (1, .int x1), (2, .int 0), (3, .int 0)]) [2, 3, 1, 0] rfl ?_
  refine wpO_bJ h (fun KL4 hKL4 h => ?_)
  refine lX12_worthOf_4 (K1 := KL4) hC (by omega) x1 M (fun x2_39 h => ?_) _ _ _ h
  have h := hKL4 _ h
  refine g_iload_n (i := 2) (x := x2_39) hC (dX12_worthOf_39) rfl rfl ?_
  refine g_ireturn hC hr (dX12_worthOf_40) ?_
  exact ⟨rfl, wpO_s h⟩
/-! LostByStateModel.neededBy(I)I -/
theorem dX12_neededBy_0 : decode cX12_neededBy 0 = .ok (.iconst 0, 1) := by decide +kernel
theorem dX12_neededBy_1 : decode cX12_neededBy 1 = .ok (.istore_n 2, 1) := by decide +kernel
theorem dX12_neededBy_2 : decode cX12_neededBy 2 = .ok (.iconst 0, 1) := by decide +kernel
theorem dX12_neededBy_3 : decode cX12_neededBy 3 = .ok (.istore_n 3, 1) := by decide +kernel
theorem dX12_neededBy_4 : decode cX12_neededBy 4 = .ok (.iload_n 3, 1) := by decide +kernel
theorem dX12_neededBy_5 : decode cX12_neededBy 5 = .ok (.aload_n 0, 1) := by decide +kernel
theorem dX12_neededBy_6 : decode cX12_neededBy 6 = .ok (.getfield 99, 3) := by decide +kernel
theorem dX12_neededBy_9 : decode cX12_neededBy 9 = .ok (.if_icmp .ge 32, 3) := by decide +kernel
theorem dX12_neededBy_12 : decode cX12_neededBy 12 = .ok (.iload_n 2, 1) := by decide +kernel
theorem dX12_neededBy_13 : decode cX12_neededBy 13 = .ok (.aload_n 0, 1) := by decide +kernel
theorem dX12_neededBy_14 : decode cX12_neededBy 14 = .ok (.getfield 26, 3) := by decide +kernel
theorem dX12_neededBy_17 : decode cX12_neededBy 17 = .ok (.iload_n 3, 1) := by decide +kernel
theorem dX12_neededBy_18 : decode cX12_neededBy 18 = .ok (.iaload, 1) := by decide +kernel
theorem dX12_neededBy_19 : decode cX12_neededBy 19 = .ok (.iload_n 1, 1) := by decide +kernel
theorem dX12_neededBy_20 : decode cX12_neededBy 20 = .ok (.invokestatic 216, 3) := by decide +kernel
theorem dX12_neededBy_23 : decode cX12_neededBy 23 = .ok (.ifCond .eq 9, 3) := by decide +kernel
theorem dX12_neededBy_26 : decode cX12_neededBy 26 = .ok (.iconst 1, 1) := by decide +kernel
theorem dX12_neededBy_27 : decode cX12_neededBy 27 = .ok (.iload_n 3, 1) := by decide +kernel
theorem dX12_neededBy_28 : decode cX12_neededBy 28 = .ok (.ishl, 1) := by decide +kernel
theorem dX12_neededBy_29 : decode cX12_neededBy 29 = .ok (.goto 4, 3) := by decide +kernel
theorem dX12_neededBy_32 : decode cX12_neededBy 32 = .ok (.iconst 0, 1) := by decide +kernel
theorem dX12_neededBy_33 : decode cX12_neededBy 33 = .ok (.ior, 1) := by decide +kernel
theorem dX12_neededBy_34 : decode cX12_neededBy 34 = .ok (.istore_n 2, 1) := by decide +kernel
theorem dX12_neededBy_35 : decode cX12_neededBy 35 = .ok (.iinc 3 1, 3) := by decide +kernel
theorem dX12_neededBy_38 : decode cX12_neededBy 38 = .ok (.goto (-34), 3) := by decide +kernel
theorem dX12_neededBy_41 : decode cX12_neededBy 41 = .ok (.iload_n 2, 1) := by decide +kernel
theorem dX12_neededBy_42 : decode cX12_neededBy 42 = .ok (.ireturn, 1) := by decide +kernel
def fX12_neededBy_L4 (x1 : Int32) (M : zM) : Nat → Int32 → Int32 → Option Int32
  | 0, _, _ => none
  | n + 1, x2, x3 => if (M.1 36 2) ≤ x3 then (
    some x2)
    else (
    if zin x3 6 then (
    zlet (if (fX12_has (M.1 40 x3.toNatClampNeg) x1) = 0 then (
    0)
    else (
    (zshl 1 x3))) fun (s0_33 : Int32) =>
    zlet (x2 ||| s0_33) fun (x2_34 : Int32) =>
    fX12_neededBy_L4 x1 M n x2_34 (x3 + 1)) else none)
def fX12_neededBy (x1 : Int32) (M : zM) : Option Int32 := (fX12_neededBy_L4 x1 M 4000 0 0).bind fun (x2_41 : Int32) =>
  some x2_41
set_option maxHeartbeats 4000000 in
theorem lX12_neededBy_4 {E : zE} {Γ : zT} {d : Nat} {K1 : Int32 → Prop} (hC : Cx E Γ RX12 cX12_neededBy 4 d) (hd : 1 ≤ d) (x1 : Int32) (M : zM) (hx : ∀ (x2_41 : Int32), K1 x2_41 → G E Γ 4 41 [(2, .int x2_41)] [] M) :
    ∀ (n : Nat) (x2 : Int32) (x3 : Int32), wpO (fX12_neededBy_L4 x1 M n x2 x3) K1 → G E Γ 4 4 [(0, .ref 36), (1, .int x1), (2, .int x2), (3, .int x3)] [] M := by
  intro n
  induction n with
  | zero =>
    intro x2 x3 h
    exact (wpO_0 h).elim
  | succ n ih =>
    intro x2 x3 h
    rw [fX12_neededBy_L4.eq_2] at h
    refine g_iload_n (i := 3) (x := x3) hC (dX12_neededBy_4) rfl rfl ?_
    refine g_aload_n (i := 0) (x := 36) hC (dX12_neededBy_5) rfl rfl ?_
    refine g_getI hC flX12_99 (dX12_neededBy_6) rfl rfl ?_
    refine g_icmp_ge (tgt := 41) hC (dX12_neededBy_9) (by decide) (fun c9 => ?_) (fun c9 => ?_)
    · have h := wpO_t c9 h
      refine g_sub (lv' := [(2, .int x2)]) [2] rfl ?_
      exact hx _ (wpO_s h)
    · have h := wpO_f c9 h
      refine g_iload_n (i := 2) (x := x2) hC (dX12_neededBy_12) rfl rfl ?_
      refine g_aload_n (i := 0) (x := 36) hC (dX12_neededBy_13) rfl rfl ?_
      refine g_getR (r := 40) hC flX12_26 (dX12_neededBy_14) rfl rfl rfl ?_
      refine g_iload_n (i := 3) (x := x3) hC (dX12_neededBy_17) rfl rfl ?_
      obtain ⟨q1, h⟩ := wpO_g h
      refine g_iaload (n := 6) hC (dX12_neededBy_18) rfl q1 ?_
      refine g_iload_n (i := 1) (x := x1) hC (dX12_neededBy_19) rfl rfl ?_
      refine g_callSi ([.int (M.1 40 x3.toNatClampNeg), .int x1]) hC wsX12_216 (dX12_neededBy_20) rfl (by omega) (Nat.le_of_ble_eq_true rfl) (cX12_has_ok (by omega) (M.1 40 x3.toNatClampNeg) x1 M (K := fun r => r = fX12_has (M.1 40 x3.toNatClampNeg) x1) rfl) (fun r N q => ?_)
      obtain ⟨rfl, rfl⟩ := q
      obtain ⟨s0_33, e_s0_33, h⟩ := wpO_l h
      have hJ3 : G E Γ 4 33 [(0, .ref 36), (1, .int x1), (3, .int x3)] [.int s0_33, .int x2] M := by
        refine g_ior hC (dX12_neededBy_33) ?_
        refine g_nmi (fun x2_34 e_x2_34 => ?_)
        have h := wpO_n e_x2_34 h
        refine g_istore_n (i := 2) (lv2 := [(2, .int x2_34), (0, .ref 36), (1, .int x1), (3, .int x3)]) hC (dX12_neededBy_34) rfl (by decide) rfl ?_
        refine g_iinc (x := x3) (v := (x3 + 1)) (lv2 := [(3, .int (x3 + 1)), (2, .int x2_34), (0, .ref 36), (1, .int x1)]) hC (dX12_neededBy_35) rfl rfl (by decide) rfl ?_
        refine g_goto (tgt := 4) hC (dX12_neededBy_38) (by decide) ?_
        refine g_sub (lv' := [(0, .ref 36), (1, .int x1), (2, .int x2_34), (3, .int (x3 + 1))]) [2, 3, 1, 0] rfl ?_
        exact ih _ _ h
      refine g_if_eq (tgt := 32) hC (dX12_neededBy_23) (by decide) (fun c23 => ?_) (fun c23 => ?_)
      · rw [if_pos c23] at e_s0_33
        refine g_iconst (v := 0) hC (dX12_neededBy_32) kc_0 ?_
        refine g_sub (lv' := [(0, .ref 36), (1, .int x1), (3, .int x3)]) [0, 1, 3] rfl ?_
        subst e_s0_33
        exact hJ3
      · rw [if_neg c23] at e_s0_33
        refine g_iconst (v := 1) hC (dX12_neededBy_26) kc_1 ?_
        refine g_iload_n (i := 3) (x := x3) hC (dX12_neededBy_27) rfl rfl ?_
        refine g_ishl hC (dX12_neededBy_28) ?_
        refine g_goto (tgt := 33) hC (dX12_neededBy_29) (by decide) ?_
        refine g_sub (lv' := [(0, .ref 36), (1, .int x1), (3, .int x3)]) [0, 1, 3] rfl ?_
        subst e_s0_33
        exact hJ3
set_option maxHeartbeats 4000000 in
theorem cX12_neededBy_ok {E : zE} {d : Nat} (hd : 1 ≤ d) (x1 : Int32) (M : zM) {K : Int32 → Prop} (h : wpO (fX12_neededBy x1 M) K) : CMi E d yX12_neededBy cX12_neededBy 4 (some .int) [.ref 36, .int x1] M (fun r N => M = N ∧ K r) := by
  refine CMi.of (by decide) (Nat.le_of_ble_eq_true rfl) (fun Γ hC hr => ?_)
  have hC : Cx E Γ RX12 cX12_neededBy 4 d := hC
  show G E Γ 4 0 [(0, .ref 36), (1, .int x1)] [] M
  unfold fX12_neededBy at h
  refine g_iconst (v := 0) hC (dX12_neededBy_0) kc_0 ?_
  refine g_istore_n (i := 2) (lv2 := [(2, .int 0), (0, .ref 36), (1, .int x1)]) hC (dX12_neededBy_1) rfl (by decide) rfl ?_
  refine g_iconst (v := 0) hC (dX12_neededBy_2) kc_0 ?_
  refine g_istore_n (i := 3) (lv2 := [(3, .int 0), (2, .int 0), (0, .ref 36), (1, .int x1)]) hC (dX12_neededBy_3) rfl (by decide) rfl ?_
  refine g_sub (lv' := [(0, .ref 36), (1, .int x1), (2, .int 0), (3, .int 0)]) [2, 3, 1, 0] rfl ?_
  refine wpO_bJ h (fun KL4 hKL4 h => ?_)
  refine lX12_neededBy_4 (K1 := KL4) hC (by omega) x1 M (fun x2_41 h => ?_) _ _ _ h
  have h := hKL4 _ h
  refine g_iload_n (i := 2) (x := x2_41) hC (dX12_neededBy_41) rfl rfl ?_
  refine g_ireturn hC hr (dX12_neededBy_42) ?_
  exact ⟨rfl, wpO_s h⟩
/-! LostByStateModel.canWith(I)I -/
theorem dX12_canWith_0 : decode cX12_canWith 0 = .ok (.iconst 0, 1) := by decide +kernel
theorem dX12_canWith_1 : decode cX12_canWith 1 = .ok (.istore_n 2, 1) := by decide +kernel
theorem dX12_canWith_2 : decode cX12_canWith 2 = .ok (.iconst 0, 1) := by decide +kernel
theorem dX12_canWith_3 : decode cX12_canWith 3 = .ok (.istore_n 3, 1) := by decide +kernel
theorem dX12_canWith_4 : decode cX12_canWith 4 = .ok (.iload_n 3, 1) := by decide +kernel
theorem dX12_canWith_5 : decode cX12_canWith 5 = .ok (.aload_n 0, 1) := by decide +kernel
theorem dX12_canWith_6 : decode cX12_canWith 6 = .ok (.getfield 99, 3) := by decide +kernel
theorem dX12_canWith_9 : decode cX12_canWith 9 = .ok (.if_icmp .ge 32, 3) := by decide +kernel
theorem dX12_canWith_12 : decode cX12_canWith 12 = .ok (.iload_n 2, 1) := by decide +kernel
theorem dX12_canWith_13 : decode cX12_canWith 13 = .ok (.aload_n 0, 1) := by decide +kernel
theorem dX12_canWith_14 : decode cX12_canWith 14 = .ok (.getfield 26, 3) := by decide +kernel
theorem dX12_canWith_17 : decode cX12_canWith 17 = .ok (.iload_n 3, 1) := by decide +kernel
theorem dX12_canWith_18 : decode cX12_canWith 18 = .ok (.iaload, 1) := by decide +kernel
theorem dX12_canWith_19 : decode cX12_canWith 19 = .ok (.iload_n 1, 1) := by decide +kernel
theorem dX12_canWith_20 : decode cX12_canWith 20 = .ok (.iconst (-1), 1) := by decide +kernel
theorem dX12_canWith_21 : decode cX12_canWith 21 = .ok (.ixor, 1) := by decide +kernel
theorem dX12_canWith_22 : decode cX12_canWith 22 = .ok (.iand, 1) := by decide +kernel
theorem dX12_canWith_23 : decode cX12_canWith 23 = .ok (.ifCond .ne 9, 3) := by decide +kernel
theorem dX12_canWith_26 : decode cX12_canWith 26 = .ok (.iconst 1, 1) := by decide +kernel
theorem dX12_canWith_27 : decode cX12_canWith 27 = .ok (.iload_n 3, 1) := by decide +kernel
theorem dX12_canWith_28 : decode cX12_canWith 28 = .ok (.ishl, 1) := by decide +kernel
theorem dX12_canWith_29 : decode cX12_canWith 29 = .ok (.goto 4, 3) := by decide +kernel
theorem dX12_canWith_32 : decode cX12_canWith 32 = .ok (.iconst 0, 1) := by decide +kernel
theorem dX12_canWith_33 : decode cX12_canWith 33 = .ok (.ior, 1) := by decide +kernel
theorem dX12_canWith_34 : decode cX12_canWith 34 = .ok (.istore_n 2, 1) := by decide +kernel
theorem dX12_canWith_35 : decode cX12_canWith 35 = .ok (.iinc 3 1, 3) := by decide +kernel
theorem dX12_canWith_38 : decode cX12_canWith 38 = .ok (.goto (-34), 3) := by decide +kernel
theorem dX12_canWith_41 : decode cX12_canWith 41 = .ok (.iload_n 2, 1) := by decide +kernel
theorem dX12_canWith_42 : decode cX12_canWith 42 = .ok (.ireturn, 1) := by decide +kernel
def fX12_canWith_L4 (x1 : Int32) (M : zM) : Nat → Int32 → Int32 → Option Int32
  | 0, _, _ => none
  | n + 1, x2, x3 => if (M.1 36 2) ≤ x3 then (
    some x2)
    else (
    if zin x3 6 then (
    zlet (if ((M.1 40 x3.toNatClampNeg) &&& (x1 ^^^ (-1))) = 0 then (
    (zshl 1 x3))
    else (
    0)) fun (s0_33 : Int32) =>
    zlet (x2 ||| s0_33) fun (x2_34 : Int32) =>
    fX12_canWith_L4 x1 M n x2_34 (x3 + 1)) else none)
def fX12_canWith (x1 : Int32) (M : zM) : Option Int32 := (fX12_canWith_L4 x1 M 4000 0 0).bind fun (x2_41 : Int32) =>
  some x2_41
set_option maxHeartbeats 4000000 in
theorem lX12_canWith_4 {E : zE} {Γ : zT} {d : Nat} {K1 : Int32 → Prop} (hC : Cx E Γ RX12 cX12_canWith 4 d) (hd : 0 ≤ d) (x1 : Int32) (M : zM) (hx : ∀ (x2_41 : Int32), K1 x2_41 → G E Γ 4 41 [(2, .int x2_41)] [] M) :
    ∀ (n : Nat) (x2 : Int32) (x3 : Int32), wpO (fX12_canWith_L4 x1 M n x2 x3) K1 → G E Γ 4 4 [(0, .ref 36), (1, .int x1), (2, .int x2), (3, .int x3)] [] M := by
  intro n
  induction n with
  | zero =>
    intro x2 x3 h
    exact (wpO_0 h).elim
  | succ n ih =>
    intro x2 x3 h
    rw [fX12_canWith_L4.eq_2] at h
    refine g_iload_n (i := 3) (x := x3) hC (dX12_canWith_4) rfl rfl ?_
    refine g_aload_n (i := 0) (x := 36) hC (dX12_canWith_5) rfl rfl ?_
    refine g_getI hC flX12_99 (dX12_canWith_6) rfl rfl ?_
    refine g_icmp_ge (tgt := 41) hC (dX12_canWith_9) (by decide) (fun c9 => ?_) (fun c9 => ?_)
    · have h := wpO_t c9 h
      refine g_sub (lv' := [(2, .int x2)]) [2] rfl ?_
      exact hx _ (wpO_s h)
    · have h := wpO_f c9 h
      refine g_iload_n (i := 2) (x := x2) hC (dX12_canWith_12) rfl rfl ?_
      refine g_aload_n (i := 0) (x := 36) hC (dX12_canWith_13) rfl rfl ?_
      refine g_getR (r := 40) hC flX12_26 (dX12_canWith_14) rfl rfl rfl ?_
      refine g_iload_n (i := 3) (x := x3) hC (dX12_canWith_17) rfl rfl ?_
      obtain ⟨q1, h⟩ := wpO_g h
      refine g_iaload (n := 6) hC (dX12_canWith_18) rfl q1 ?_
      refine g_iload_n (i := 1) (x := x1) hC (dX12_canWith_19) rfl rfl ?_
      refine g_iconst (v := (-1)) hC (dX12_canWith_20) kc_m1 ?_
      refine g_ixor hC (dX12_canWith_21) ?_
      refine g_iand hC (dX12_canWith_22) ?_
      obtain ⟨s0_33, e_s0_33, h⟩ := wpO_l h
      have hJ2 : G E Γ 4 33 [(0, .ref 36), (1, .int x1), (3, .int x3)] [.int s0_33, .int x2] M := by
        refine g_ior hC (dX12_canWith_33) ?_
        refine g_nmi (fun x2_34 e_x2_34 => ?_)
        have h := wpO_n e_x2_34 h
        refine g_istore_n (i := 2) (lv2 := [(2, .int x2_34), (0, .ref 36), (1, .int x1), (3, .int x3)]) hC (dX12_canWith_34) rfl (by decide) rfl ?_
        refine g_iinc (x := x3) (v := (x3 + 1)) (lv2 := [(3, .int (x3 + 1)), (2, .int x2_34), (0, .ref 36), (1, .int x1)]) hC (dX12_canWith_35) rfl rfl (by decide) rfl ?_
        refine g_goto (tgt := 4) hC (dX12_canWith_38) (by decide) ?_
        refine g_sub (lv' := [(0, .ref 36), (1, .int x1), (2, .int x2_34), (3, .int (x3 + 1))]) [2, 3, 1, 0] rfl ?_
        exact ih _ _ h
      refine g_if_ne (tgt := 32) hC (dX12_canWith_23) (by decide) (fun c23 => ?_) (fun c23 => ?_)
      · rw [if_neg c23] at e_s0_33
        refine g_iconst (v := 0) hC (dX12_canWith_32) kc_0 ?_
        refine g_sub (lv' := [(0, .ref 36), (1, .int x1), (3, .int x3)]) [0, 1, 3] rfl ?_
        subst e_s0_33
        exact hJ2
      · rw [if_pos c23] at e_s0_33
        refine g_iconst (v := 1) hC (dX12_canWith_26) kc_1 ?_
        refine g_iload_n (i := 3) (x := x3) hC (dX12_canWith_27) rfl rfl ?_
        refine g_ishl hC (dX12_canWith_28) ?_
        refine g_goto (tgt := 33) hC (dX12_canWith_29) (by decide) ?_
        refine g_sub (lv' := [(0, .ref 36), (1, .int x1), (3, .int x3)]) [0, 1, 3] rfl ?_
        subst e_s0_33
        exact hJ2
set_option maxHeartbeats 4000000 in
theorem cX12_canWith_ok {E : zE} {d : Nat} (hd : 0 ≤ d) (x1 : Int32) (M : zM) {K : Int32 → Prop} (h : wpO (fX12_canWith x1 M) K) : CMi E d yX12_canWith cX12_canWith 4 (some .int) [.ref 36, .int x1] M (fun r N => M = N ∧ K r) := by
  refine CMi.of (by decide) (Nat.le_of_ble_eq_true rfl) (fun Γ hC hr => ?_)
  have hC : Cx E Γ RX12 cX12_canWith 4 d := hC
  show G E Γ 4 0 [(0, .ref 36), (1, .int x1)] [] M
  unfold fX12_canWith at h
  refine g_iconst (v := 0) hC (dX12_canWith_0) kc_0 ?_
  refine g_istore_n (i := 2) (lv2 := [(2, .int 0), (0, .ref 36), (1, .int x1)]) hC (dX12_canWith_1) rfl (by decide) rfl ?_
  refine g_iconst (v := 0) hC (dX12_canWith_2) kc_0 ?_
  refine g_istore_n (i := 3) (lv2 := [(3, .int 0), (2, .int 0), (0, .ref 36), (1, .int x1)]) hC (dX12_canWith_3) rfl (by decide) rfl ?_
  refine g_sub (lv' := [(0, .ref 36), (1, .int x1), (2, .int 0), (3, .int 0)]) [2, 3, 1, 0] rfl ?_
  refine wpO_bJ h (fun KL4 hKL4 h => ?_)
  refine lX12_canWith_4 (K1 := KL4) hC (by omega) x1 M (fun x2_41 h => ?_) _ _ _ h
  have h := hKL4 _ h
  refine g_iload_n (i := 2) (x := x2_41) hC (dX12_canWith_41) rfl rfl ?_
  refine g_ireturn hC hr (dX12_canWith_42) ?_
  exact ⟨rfl, wpO_s h⟩
/-! LostByStateModel.thing(II)I -/
theorem dX12_thing_0 : decode cX12_thing 0 = .ok (.aload_n 0, 1) := by decide +kernel
theorem dX12_thing_1 : decode cX12_thing 1 = .ok (.iconst 0, 1) := by decide +kernel
theorem dX12_thing_2 : decode cX12_thing 2 = .ok (.putfield 86, 3) := by decide +kernel
theorem dX12_thing_5 : decode cX12_thing 5 = .ok (.aload_n 0, 1) := by decide +kernel
theorem dX12_thing_6 : decode cX12_thing 6 = .ok (.iload_n 1, 1) := by decide +kernel
theorem dX12_thing_7 : decode cX12_thing 7 = .ok (.invokevirtual 220, 3) := by decide +kernel
theorem dX12_thing_10 : decode cX12_thing 10 = .ok (.ifCond .eq 13, 3) := by decide +kernel
theorem dX12_thing_13 : decode cX12_thing 13 = .ok (.iload_n 2, 1) := by decide +kernel
theorem dX12_thing_14 : decode cX12_thing 14 = .ok (.iconst 0, 1) := by decide +kernel
theorem dX12_thing_15 : decode cX12_thing 15 = .ok (.bipush 6, 2) := by decide +kernel
theorem dX12_thing_17 : decode cX12_thing 17 = .ok (.invokestatic 95, 3) := by decide +kernel
theorem dX12_thing_20 : decode cX12_thing 20 = .ok (.ifCond .ne 8, 3) := by decide +kernel
theorem dX12_thing_23 : decode cX12_thing 23 = .ok (.aload_n 0, 1) := by decide +kernel
theorem dX12_thing_24 : decode cX12_thing 24 = .ok (.invokevirtual 224, 3) := by decide +kernel
theorem dX12_thing_27 : decode cX12_thing 27 = .ok (.ireturn, 1) := by decide +kernel
theorem dX12_thing_28 : decode cX12_thing 28 = .ok (.iload_n 2, 1) := by decide +kernel
theorem dX12_thing_29 : decode cX12_thing 29 = .ok (.tableswitch 148 0 5 #[39, 46, 53, 76, 100, 124], 39) := by decide +kernel
theorem dX12_thing_68 : decode cX12_thing 68 = .ok (.aload_n 0, 1) := by decide +kernel
theorem dX12_thing_69 : decode cX12_thing 69 = .ok (.getfield 20, 3) := by decide +kernel
theorem dX12_thing_72 : decode cX12_thing 72 = .ok (.iload_n 1, 1) := by decide +kernel
theorem dX12_thing_73 : decode cX12_thing 73 = .ok (.iaload, 1) := by decide +kernel
theorem dX12_thing_74 : decode cX12_thing 74 = .ok (.ireturn, 1) := by decide +kernel
theorem dX12_thing_75 : decode cX12_thing 75 = .ok (.aload_n 0, 1) := by decide +kernel
theorem dX12_thing_76 : decode cX12_thing 76 = .ok (.getfield 23, 3) := by decide +kernel
theorem dX12_thing_79 : decode cX12_thing 79 = .ok (.iload_n 1, 1) := by decide +kernel
theorem dX12_thing_80 : decode cX12_thing 80 = .ok (.iaload, 1) := by decide +kernel
theorem dX12_thing_81 : decode cX12_thing 81 = .ok (.ireturn, 1) := by decide +kernel
theorem dX12_thing_82 : decode cX12_thing 82 = .ok (.aload_n 0, 1) := by decide +kernel
theorem dX12_thing_83 : decode cX12_thing 83 = .ok (.getfield 9, 3) := by decide +kernel
theorem dX12_thing_86 : decode cX12_thing 86 = .ok (.iload_n 1, 1) := by decide +kernel
theorem dX12_thing_87 : decode cX12_thing 87 = .ok (.iaload, 1) := by decide +kernel
theorem dX12_thing_88 : decode cX12_thing 88 = .ok (.ifCond .ne 15, 3) := by decide +kernel
theorem dX12_thing_91 : decode cX12_thing 91 = .ok (.aload_n 0, 1) := by decide +kernel
theorem dX12_thing_92 : decode cX12_thing 92 = .ok (.getfield 9, 3) := by decide +kernel
theorem dX12_thing_95 : decode cX12_thing 95 = .ok (.bipush 8, 2) := by decide +kernel
theorem dX12_thing_97 : decode cX12_thing 97 = .ok (.iload_n 1, 1) := by decide +kernel
theorem dX12_thing_98 : decode cX12_thing 98 = .ok (.iadd, 1) := by decide +kernel
theorem dX12_thing_99 : decode cX12_thing 99 = .ok (.iaload, 1) := by decide +kernel
theorem dX12_thing_100 : decode cX12_thing 100 = .ok (.goto 4, 3) := by decide +kernel
theorem dX12_thing_103 : decode cX12_thing 103 = .ok (.iconst (-1), 1) := by decide +kernel
theorem dX12_thing_104 : decode cX12_thing 104 = .ok (.ireturn, 1) := by decide +kernel
theorem dX12_thing_105 : decode cX12_thing 105 = .ok (.aload_n 0, 1) := by decide +kernel
theorem dX12_thing_106 : decode cX12_thing 106 = .ok (.getfield 9, 3) := by decide +kernel
theorem dX12_thing_109 : decode cX12_thing 109 = .ok (.iload_n 1, 1) := by decide +kernel
theorem dX12_thing_110 : decode cX12_thing 110 = .ok (.iaload, 1) := by decide +kernel
theorem dX12_thing_111 : decode cX12_thing 111 = .ok (.iconst 1, 1) := by decide +kernel
theorem dX12_thing_112 : decode cX12_thing 112 = .ok (.if_icmp .ne 15, 3) := by decide +kernel
theorem dX12_thing_115 : decode cX12_thing 115 = .ok (.aload_n 0, 1) := by decide +kernel
theorem dX12_thing_116 : decode cX12_thing 116 = .ok (.getfield 9, 3) := by decide +kernel
theorem dX12_thing_119 : decode cX12_thing 119 = .ok (.bipush 8, 2) := by decide +kernel
theorem dX12_thing_121 : decode cX12_thing 121 = .ok (.iload_n 1, 1) := by decide +kernel
theorem dX12_thing_122 : decode cX12_thing 122 = .ok (.iadd, 1) := by decide +kernel
theorem dX12_thing_123 : decode cX12_thing 123 = .ok (.iaload, 1) := by decide +kernel
theorem dX12_thing_124 : decode cX12_thing 124 = .ok (.goto 4, 3) := by decide +kernel
theorem dX12_thing_127 : decode cX12_thing 127 = .ok (.iconst (-1), 1) := by decide +kernel
theorem dX12_thing_128 : decode cX12_thing 128 = .ok (.ireturn, 1) := by decide +kernel
theorem dX12_thing_129 : decode cX12_thing 129 = .ok (.aload_n 0, 1) := by decide +kernel
theorem dX12_thing_130 : decode cX12_thing 130 = .ok (.getfield 9, 3) := by decide +kernel
theorem dX12_thing_133 : decode cX12_thing 133 = .ok (.iload_n 1, 1) := by decide +kernel
theorem dX12_thing_134 : decode cX12_thing 134 = .ok (.iaload, 1) := by decide +kernel
theorem dX12_thing_135 : decode cX12_thing 135 = .ok (.iconst 2, 1) := by decide +kernel
theorem dX12_thing_136 : decode cX12_thing 136 = .ok (.if_icmp .ne 15, 3) := by decide +kernel
theorem dX12_thing_139 : decode cX12_thing 139 = .ok (.aload_n 0, 1) := by decide +kernel
theorem dX12_thing_140 : decode cX12_thing 140 = .ok (.getfield 9, 3) := by decide +kernel
theorem dX12_thing_143 : decode cX12_thing 143 = .ok (.bipush 16, 2) := by decide +kernel
theorem dX12_thing_145 : decode cX12_thing 145 = .ok (.iload_n 1, 1) := by decide +kernel
theorem dX12_thing_146 : decode cX12_thing 146 = .ok (.iadd, 1) := by decide +kernel
theorem dX12_thing_147 : decode cX12_thing 147 = .ok (.iaload, 1) := by decide +kernel
theorem dX12_thing_148 : decode cX12_thing 148 = .ok (.goto 4, 3) := by decide +kernel
theorem dX12_thing_151 : decode cX12_thing 151 = .ok (.iconst (-1), 1) := by decide +kernel
theorem dX12_thing_152 : decode cX12_thing 152 = .ok (.ireturn, 1) := by decide +kernel
theorem dX12_thing_153 : decode cX12_thing 153 = .ok (.aload_n 0, 1) := by decide +kernel
theorem dX12_thing_154 : decode cX12_thing 154 = .ok (.getfield 9, 3) := by decide +kernel
theorem dX12_thing_157 : decode cX12_thing 157 = .ok (.iload_n 1, 1) := by decide +kernel
theorem dX12_thing_158 : decode cX12_thing 158 = .ok (.iaload, 1) := by decide +kernel
theorem dX12_thing_159 : decode cX12_thing 159 = .ok (.iconst 2, 1) := by decide +kernel
theorem dX12_thing_160 : decode cX12_thing 160 = .ok (.if_icmp .ne 15, 3) := by decide +kernel
theorem dX12_thing_163 : decode cX12_thing 163 = .ok (.aload_n 0, 1) := by decide +kernel
theorem dX12_thing_164 : decode cX12_thing 164 = .ok (.getfield 9, 3) := by decide +kernel
theorem dX12_thing_167 : decode cX12_thing 167 = .ok (.bipush 8, 2) := by decide +kernel
theorem dX12_thing_169 : decode cX12_thing 169 = .ok (.iload_n 1, 1) := by decide +kernel
theorem dX12_thing_170 : decode cX12_thing 170 = .ok (.iadd, 1) := by decide +kernel
theorem dX12_thing_171 : decode cX12_thing 171 = .ok (.iaload, 1) := by decide +kernel
theorem dX12_thing_172 : decode cX12_thing 172 = .ok (.goto 4, 3) := by decide +kernel
theorem dX12_thing_175 : decode cX12_thing 175 = .ok (.iconst (-1), 1) := by decide +kernel
theorem dX12_thing_176 : decode cX12_thing 176 = .ok (.ireturn, 1) := by decide +kernel
theorem dX12_thing_177 : decode cX12_thing 177 = .ok (.aload_n 0, 1) := by decide +kernel
theorem dX12_thing_178 : decode cX12_thing 178 = .ok (.iload_n 1, 1) := by decide +kernel
theorem dX12_thing_179 : decode cX12_thing 179 = .ok (.invokevirtual 227, 3) := by decide +kernel
theorem dX12_thing_182 : decode cX12_thing 182 = .ok (.ireturn, 1) := by decide +kernel
def fX12_thing (x1 : Int32) (x2 : Int32) (M : zM) : Option (Int32 × zM) := zlet (zSI M 36 12 0) fun (M2 : zM) =>
  zj (fun (_ : Unit) =>
  zlet ((fX12_lost M2).2) fun (M24 : zM) =>
  some ((fX12_lost M2).1, M24))
  fun J2 =>
  if (fX12_isThing x1 M2) = 0 then (
  J2 ())
  else (
  if (fX12_in x2 0 6) = 0 then (
  J2 ())
  else (
  if x2 = 0 then (
  if zin x1 8 then (
  some (M2.1 38 x1.toNatClampNeg, M2)) else none)
  else (
  if x2 = 1 then (
  if zin x1 8 then (
  some (M2.1 39 x1.toNatClampNeg, M2)) else none)
  else (
  if x2 = 2 then (
  if zin x1 26 then (
  if (M2.1 37 x1.toNatClampNeg) = 0 then (
  if zin (8 + x1) 26 then (
  some (M2.1 37 (8 + x1).toNatClampNeg, M2)) else none)
  else (
  some ((-1), M2))) else none)
  else (
  if x2 = 3 then (
  if zin x1 26 then (
  if (M2.1 37 x1.toNatClampNeg) = 1 then (
  if zin (8 + x1) 26 then (
  some (M2.1 37 (8 + x1).toNatClampNeg, M2)) else none)
  else (
  some ((-1), M2))) else none)
  else (
  if x2 = 4 then (
  if zin x1 26 then (
  if (M2.1 37 x1.toNatClampNeg) = 2 then (
  if zin (16 + x1) 26 then (
  some (M2.1 37 (16 + x1).toNatClampNeg, M2)) else none)
  else (
  some ((-1), M2))) else none)
  else (
  if x2 = 5 then (
  if zin x1 26 then (
  if (M2.1 37 x1.toNatClampNeg) = 2 then (
  if zin (8 + x1) 26 then (
  some (M2.1 37 (8 + x1).toNatClampNeg, M2)) else none)
  else (
  some ((-1), M2))) else none)
  else (
  (fX12_neededBy x1 M2).bind fun (r14 : Int32) =>
  some (r14, M2)))))))))
set_option maxHeartbeats 4000000 in
theorem cX12_thing_ok {E : zE} {d : Nat} (hd : 2 ≤ d) (x1 : Int32) (x2 : Int32) (M : zM) {K : (Int32 × zM) → Prop} (h : wpO (fX12_thing x1 x2 M) K) : CMi E d yX12_thing cX12_thing 3 (some .int) [.ref 36, .int x1, .int x2] M (fun r N => K (r, N)) := by
  refine CMi.of (by decide) (Nat.le_of_ble_eq_true rfl) (fun Γ hC hr => ?_)
  have hC : Cx E Γ RX12 cX12_thing 3 d := hC
  show G E Γ 3 0 [(0, .ref 36), (1, .int x1), (2, .int x2)] [] M
  unfold fX12_thing at h
  refine g_aload_n (i := 0) (x := 36) hC (dX12_thing_0) rfl rfl ?_
  refine g_iconst (v := 0) hC (dX12_thing_1) kc_0 ?_
  refine g_putI hC fpX12_86 (dX12_thing_2) rfl rfl rfl rfl ?_
  refine g_nmM (fun M2 e_M2 => ?_)
  have h := wpO_n e_M2 h
  refine g_aload_n (i := 0) (x := 36) hC (dX12_thing_5) rfl rfl ?_
  refine g_iload_n (i := 1) (x := x1) hC (dX12_thing_6) rfl rfl ?_
  refine g_callVi ([.int x1]) hC wvX12_220 (dX12_thing_7) rfl rfl (by omega) (Nat.le_of_ble_eq_true rfl) (cX12_isThing_ok (by omega) x1 M2 (K := fun r => r = fX12_isThing x1 M2) rfl) (fun r N q => ?_)
  obtain ⟨rfl, rfl⟩ := q
  refine wpO_j h (fun J2 hkJ2 h => ?_)
  have hJ2 : ∀ (_ : Unit), wpO (J2 ()) K → G E Γ 3 23 [(0, .ref 36)] [] M2 := by
    intro _ h
    have h := hkJ2 _ h
    refine g_aload_n (i := 0) (x := 36) hC (dX12_thing_23) rfl rfl ?_
    refine g_callVi ([]) hC wvX12_224 (dX12_thing_24) rfl rfl (by omega) (Nat.le_of_ble_eq_true rfl) (cX12_lost_ok (by omega) M2 (K := fun r => r = fX12_lost M2) rfl) (fun r N q => ?_)
    obtain ⟨rfl, rfl⟩ : r = (fX12_lost M2).1 ∧ N = (fX12_lost M2).2 := ⟨congrArg Prod.fst q, congrArg Prod.snd q⟩
    refine g_nmM (fun M24 e_M24 => ?_)
    have h := wpO_n e_M24 h
    refine g_ireturn hC hr (dX12_thing_27) ?_
    exact wpO_s h
  refine g_if_eq (tgt := 23) hC (dX12_thing_10) (by decide) (fun c10 => ?_) (fun c10 => ?_)
  · have h := wpO_t c10 h
    refine g_sub (lv' := [(0, .ref 36)]) [0] rfl ?_
    exact hJ2 () h
  · have h := wpO_f c10 h
    refine g_iload_n (i := 2) (x := x2) hC (dX12_thing_13) rfl rfl ?_
    refine g_iconst (v := 0) hC (dX12_thing_14) kc_0 ?_
    refine g_bipush (v := 6) hC (dX12_thing_15) kb_6 ?_
    refine g_callSi ([.int x2, .int 0, .int 6]) hC wsX12_95 (dX12_thing_17) rfl (by omega) (Nat.le_of_ble_eq_true rfl) (cX12_in_ok (by omega) x2 0 6 M2 (K := fun r => r = fX12_in x2 0 6) rfl) (fun r N q => ?_)
    obtain ⟨rfl, rfl⟩ := q
    refine g_if_ne (tgt := 28) hC (dX12_thing_20) (by decide) (fun c20 => ?_) (fun c20 => ?_)
    · have h := wpO_f c20 h
      refine g_iload_n (i := 2) (x := x2) hC (dX12_thing_28) rfl rfl ?_
      rcases Decidable.em (x2 = 0) with c29_0 | c29_0
      · have h := wpO_t c29_0 h
        refine g_tswIn (tgt := 68) (off := 39) hC (dX12_thing_29) 0 c29_0 (by decide +kernel) (by decide +kernel) (by decide +kernel) (by decide +kernel) ?_
        refine g_aload_n (i := 0) (x := 36) hC (dX12_thing_68) rfl rfl ?_
        refine g_getR (r := 38) hC flX12_20 (dX12_thing_69) rfl rfl rfl ?_
        refine g_iload_n (i := 1) (x := x1) hC (dX12_thing_72) rfl rfl ?_
        obtain ⟨q4, h⟩ := wpO_g h
        refine g_iaload (n := 8) hC (dX12_thing_73) rfl q4 ?_
        refine g_ireturn hC hr (dX12_thing_74) ?_
        exact wpO_s h
      · have h := wpO_f c29_0 h
        rcases Decidable.em (x2 = 1) with c29_1 | c29_1
        · have h := wpO_t c29_1 h
          refine g_tswIn (tgt := 75) (off := 46) hC (dX12_thing_29) 1 c29_1 (by decide +kernel) (by decide +kernel) (by decide +kernel) (by decide +kernel) ?_
          refine g_aload_n (i := 0) (x := 36) hC (dX12_thing_75) rfl rfl ?_
          refine g_getR (r := 39) hC flX12_23 (dX12_thing_76) rfl rfl rfl ?_
          refine g_iload_n (i := 1) (x := x1) hC (dX12_thing_79) rfl rfl ?_
          obtain ⟨q5, h⟩ := wpO_g h
          refine g_iaload (n := 8) hC (dX12_thing_80) rfl q5 ?_
          refine g_ireturn hC hr (dX12_thing_81) ?_
          exact wpO_s h
        · have h := wpO_f c29_1 h
          rcases Decidable.em (x2 = 2) with c29_2 | c29_2
          · have h := wpO_t c29_2 h
            refine g_tswIn (tgt := 82) (off := 53) hC (dX12_thing_29) 2 c29_2 (by decide +kernel) (by decide +kernel) (by decide +kernel) (by decide +kernel) ?_
            refine g_aload_n (i := 0) (x := 36) hC (dX12_thing_82) rfl rfl ?_
            refine g_getR (r := 37) hC flX12_9 (dX12_thing_83) rfl rfl rfl ?_
            refine g_iload_n (i := 1) (x := x1) hC (dX12_thing_86) rfl rfl ?_
            obtain ⟨q6, h⟩ := wpO_g h
            refine g_iaload (n := 26) hC (dX12_thing_87) rfl q6 ?_
            refine g_if_ne (tgt := 103) hC (dX12_thing_88) (by decide) (fun c88 => ?_) (fun c88 => ?_)
            · have h := wpO_f c88 h
              refine g_iconst (v := (-1)) hC (dX12_thing_103) kc_m1 ?_
              refine g_ireturn hC hr (dX12_thing_104) ?_
              exact wpO_s h
            · have h := wpO_t c88 h
              refine g_aload_n (i := 0) (x := 36) hC (dX12_thing_91) rfl rfl ?_
              refine g_getR (r := 37) hC flX12_9 (dX12_thing_92) rfl rfl rfl ?_
              refine g_bipush (v := 8) hC (dX12_thing_95) kb_8 ?_
              refine g_iload_n (i := 1) (x := x1) hC (dX12_thing_97) rfl rfl ?_
              refine g_iadd hC (dX12_thing_98) ?_
              obtain ⟨q7, h⟩ := wpO_g h
              refine g_iaload (n := 26) hC (dX12_thing_99) rfl q7 ?_
              refine g_goto (tgt := 104) hC (dX12_thing_100) (by decide) ?_
              refine g_ireturn hC hr (dX12_thing_104) ?_
              exact wpO_s h
          · have h := wpO_f c29_2 h
            rcases Decidable.em (x2 = 3) with c29_3 | c29_3
            · have h := wpO_t c29_3 h
              refine g_tswIn (tgt := 105) (off := 76) hC (dX12_thing_29) 3 c29_3 (by decide +kernel) (by decide +kernel) (by decide +kernel) (by decide +kernel) ?_
              refine g_aload_n (i := 0) (x := 36) hC (dX12_thing_105) rfl rfl ?_
              refine g_getR (r := 37) hC flX12_9 (dX12_thing_106) rfl rfl rfl ?_
              refine g_iload_n (i := 1) (x := x1) hC (dX12_thing_109) rfl rfl ?_
              obtain ⟨q8, h⟩ := wpO_g h
              refine g_iaload (n := 26) hC (dX12_thing_110) rfl q8 ?_
              refine g_iconst (v := 1) hC (dX12_thing_111) kc_1 ?_
              refine g_icmp_ne (tgt := 127) hC (dX12_thing_112) (by decide) (fun c112 => ?_) (fun c112 => ?_)
              · have h := wpO_f c112 h
                refine g_iconst (v := (-1)) hC (dX12_thing_127) kc_m1 ?_
                refine g_ireturn hC hr (dX12_thing_128) ?_
                exact wpO_s h
              · have h := wpO_t c112 h
                refine g_aload_n (i := 0) (x := 36) hC (dX12_thing_115) rfl rfl ?_
                refine g_getR (r := 37) hC flX12_9 (dX12_thing_116) rfl rfl rfl ?_
                refine g_bipush (v := 8) hC (dX12_thing_119) kb_8 ?_
                refine g_iload_n (i := 1) (x := x1) hC (dX12_thing_121) rfl rfl ?_
                refine g_iadd hC (dX12_thing_122) ?_
                obtain ⟨q9, h⟩ := wpO_g h
                refine g_iaload (n := 26) hC (dX12_thing_123) rfl q9 ?_
                refine g_goto (tgt := 128) hC (dX12_thing_124) (by decide) ?_
                refine g_ireturn hC hr (dX12_thing_128) ?_
                exact wpO_s h
            · have h := wpO_f c29_3 h
              rcases Decidable.em (x2 = 4) with c29_4 | c29_4
              · have h := wpO_t c29_4 h
                refine g_tswIn (tgt := 129) (off := 100) hC (dX12_thing_29) 4 c29_4 (by decide +kernel) (by decide +kernel) (by decide +kernel) (by decide +kernel) ?_
                refine g_aload_n (i := 0) (x := 36) hC (dX12_thing_129) rfl rfl ?_
                refine g_getR (r := 37) hC flX12_9 (dX12_thing_130) rfl rfl rfl ?_
                refine g_iload_n (i := 1) (x := x1) hC (dX12_thing_133) rfl rfl ?_
                obtain ⟨q10, h⟩ := wpO_g h
                refine g_iaload (n := 26) hC (dX12_thing_134) rfl q10 ?_
                refine g_iconst (v := 2) hC (dX12_thing_135) kc_2 ?_
                refine g_icmp_ne (tgt := 151) hC (dX12_thing_136) (by decide) (fun c136 => ?_) (fun c136 => ?_)
                · have h := wpO_f c136 h
                  refine g_iconst (v := (-1)) hC (dX12_thing_151) kc_m1 ?_
                  refine g_ireturn hC hr (dX12_thing_152) ?_
                  exact wpO_s h
                · have h := wpO_t c136 h
                  refine g_aload_n (i := 0) (x := 36) hC (dX12_thing_139) rfl rfl ?_
                  refine g_getR (r := 37) hC flX12_9 (dX12_thing_140) rfl rfl rfl ?_
                  refine g_bipush (v := 16) hC (dX12_thing_143) kb_16 ?_
                  refine g_iload_n (i := 1) (x := x1) hC (dX12_thing_145) rfl rfl ?_
                  refine g_iadd hC (dX12_thing_146) ?_
                  obtain ⟨q11, h⟩ := wpO_g h
                  refine g_iaload (n := 26) hC (dX12_thing_147) rfl q11 ?_
                  refine g_goto (tgt := 152) hC (dX12_thing_148) (by decide) ?_
                  refine g_ireturn hC hr (dX12_thing_152) ?_
                  exact wpO_s h
              · have h := wpO_f c29_4 h
                rcases Decidable.em (x2 = 5) with c29_5 | c29_5
                · have h := wpO_t c29_5 h
                  refine g_tswIn (tgt := 153) (off := 124) hC (dX12_thing_29) 5 c29_5 (by decide +kernel) (by decide +kernel) (by decide +kernel) (by decide +kernel) ?_
                  refine g_aload_n (i := 0) (x := 36) hC (dX12_thing_153) rfl rfl ?_
                  refine g_getR (r := 37) hC flX12_9 (dX12_thing_154) rfl rfl rfl ?_
                  refine g_iload_n (i := 1) (x := x1) hC (dX12_thing_157) rfl rfl ?_
                  obtain ⟨q12, h⟩ := wpO_g h
                  refine g_iaload (n := 26) hC (dX12_thing_158) rfl q12 ?_
                  refine g_iconst (v := 2) hC (dX12_thing_159) kc_2 ?_
                  refine g_icmp_ne (tgt := 175) hC (dX12_thing_160) (by decide) (fun c160 => ?_) (fun c160 => ?_)
                  · have h := wpO_f c160 h
                    refine g_iconst (v := (-1)) hC (dX12_thing_175) kc_m1 ?_
                    refine g_ireturn hC hr (dX12_thing_176) ?_
                    exact wpO_s h
                  · have h := wpO_t c160 h
                    refine g_aload_n (i := 0) (x := 36) hC (dX12_thing_163) rfl rfl ?_
                    refine g_getR (r := 37) hC flX12_9 (dX12_thing_164) rfl rfl rfl ?_
                    refine g_bipush (v := 8) hC (dX12_thing_167) kb_8 ?_
                    refine g_iload_n (i := 1) (x := x1) hC (dX12_thing_169) rfl rfl ?_
                    refine g_iadd hC (dX12_thing_170) ?_
                    obtain ⟨q13, h⟩ := wpO_g h
                    refine g_iaload (n := 26) hC (dX12_thing_171) rfl q13 ?_
                    refine g_goto (tgt := 176) hC (dX12_thing_172) (by decide) ?_
                    refine g_ireturn hC hr (dX12_thing_176) ?_
                    exact wpO_s h
                · have h := wpO_f c29_5 h
                  have zc29_0 : ¬ (x2).toInt = 0 := fun z => c29_0 (Int32.toInt_inj.mp (z.trans (by decide +kernel)))
                  have zc29_1 : ¬ (x2).toInt = 1 := fun z => c29_1 (Int32.toInt_inj.mp (z.trans (by decide +kernel)))
                  have zc29_2 : ¬ (x2).toInt = 2 := fun z => c29_2 (Int32.toInt_inj.mp (z.trans (by decide +kernel)))
                  have zc29_3 : ¬ (x2).toInt = 3 := fun z => c29_3 (Int32.toInt_inj.mp (z.trans (by decide +kernel)))
                  have zc29_4 : ¬ (x2).toInt = 4 := fun z => c29_4 (Int32.toInt_inj.mp (z.trans (by decide +kernel)))
                  have zc29_5 : ¬ (x2).toInt = 5 := fun z => c29_5 (Int32.toInt_inj.mp (z.trans (by decide +kernel)))
                  refine g_tswOut (tgt := 177) hC (dX12_thing_29) (by omega) (by decide +kernel) ?_
                  refine g_aload_n (i := 0) (x := 36) hC (dX12_thing_177) rfl rfl ?_
                  refine g_iload_n (i := 1) (x := x1) hC (dX12_thing_178) rfl rfl ?_
                  have h := wpO_b h
                  refine g_callVi ([.int x1]) hC wvX12_227 (dX12_thing_179) rfl rfl (by omega) (Nat.le_of_ble_eq_true rfl) (cX12_neededBy_ok (by omega) x1 M2 h) (fun r14 N q => ?_)
                  obtain ⟨rfl, h⟩ := q
                  refine g_ireturn hC hr (dX12_thing_182) ?_
                  exact wpO_s h
    · have h := wpO_t c20 h
      refine g_sub (lv' := [(0, .ref 36)]) [0] rfl ?_
      exact hJ2 () h
/-! LostByStateModel.deed(II)I -/
theorem dX12_deed_0 : decode cX12_deed 0 = .ok (.aload_n 0, 1) := by decide +kernel
theorem dX12_deed_1 : decode cX12_deed 1 = .ok (.iconst 0, 1) := by decide +kernel
theorem dX12_deed_2 : decode cX12_deed 2 = .ok (.putfield 86, 3) := by decide +kernel
theorem dX12_deed_5 : decode cX12_deed 5 = .ok (.aload_n 0, 1) := by decide +kernel
theorem dX12_deed_6 : decode cX12_deed 6 = .ok (.iload_n 1, 1) := by decide +kernel
theorem dX12_deed_7 : decode cX12_deed 7 = .ok (.invokevirtual 230, 3) := by decide +kernel
theorem dX12_deed_10 : decode cX12_deed 10 = .ok (.ifCond .eq 12, 3) := by decide +kernel
theorem dX12_deed_13 : decode cX12_deed 13 = .ok (.iload_n 2, 1) := by decide +kernel
theorem dX12_deed_14 : decode cX12_deed 14 = .ok (.iconst 0, 1) := by decide +kernel
theorem dX12_deed_15 : decode cX12_deed 15 = .ok (.iconst 2, 1) := by decide +kernel
theorem dX12_deed_16 : decode cX12_deed 16 = .ok (.invokestatic 95, 3) := by decide +kernel
theorem dX12_deed_19 : decode cX12_deed 19 = .ok (.ifCond .ne 8, 3) := by decide +kernel
theorem dX12_deed_22 : decode cX12_deed 22 = .ok (.aload_n 0, 1) := by decide +kernel
theorem dX12_deed_23 : decode cX12_deed 23 = .ok (.invokevirtual 224, 3) := by decide +kernel
theorem dX12_deed_26 : decode cX12_deed 26 = .ok (.ireturn, 1) := by decide +kernel
theorem dX12_deed_27 : decode cX12_deed 27 = .ok (.aload_n 0, 1) := by decide +kernel
theorem dX12_deed_28 : decode cX12_deed 28 = .ok (.getfield 26, 3) := by decide +kernel
theorem dX12_deed_31 : decode cX12_deed 31 = .ok (.iload_n 1, 1) := by decide +kernel
theorem dX12_deed_32 : decode cX12_deed 32 = .ok (.iaload, 1) := by decide +kernel
theorem dX12_deed_33 : decode cX12_deed 33 = .ok (.aload_n 0, 1) := by decide +kernel
theorem dX12_deed_34 : decode cX12_deed 34 = .ok (.aload_n 0, 1) := by decide +kernel
theorem dX12_deed_35 : decode cX12_deed 35 = .ok (.getfield 9, 3) := by decide +kernel
theorem dX12_deed_38 : decode cX12_deed 38 = .ok (.bipush 6, 2) := by decide +kernel
theorem dX12_deed_40 : decode cX12_deed 40 = .ok (.invokevirtual 213, 3) := by decide +kernel
theorem dX12_deed_43 : decode cX12_deed 43 = .ok (.iconst (-1), 1) := by decide +kernel
theorem dX12_deed_44 : decode cX12_deed 44 = .ok (.ixor, 1) := by decide +kernel
theorem dX12_deed_45 : decode cX12_deed 45 = .ok (.iand, 1) := by decide +kernel
theorem dX12_deed_46 : decode cX12_deed 46 = .ok (.istore_n 3, 1) := by decide +kernel
theorem dX12_deed_47 : decode cX12_deed 47 = .ok (.iload_n 2, 1) := by decide +kernel
theorem dX12_deed_48 : decode cX12_deed 48 = .ok (.ifCond .ne 12, 3) := by decide +kernel
theorem dX12_deed_51 : decode cX12_deed 51 = .ok (.aload_n 0, 1) := by decide +kernel
theorem dX12_deed_52 : decode cX12_deed 52 = .ok (.getfield 26, 3) := by decide +kernel
theorem dX12_deed_55 : decode cX12_deed 55 = .ok (.iload_n 1, 1) := by decide +kernel
theorem dX12_deed_56 : decode cX12_deed 56 = .ok (.iaload, 1) := by decide +kernel
theorem dX12_deed_57 : decode cX12_deed 57 = .ok (.goto 21, 3) := by decide +kernel
theorem dX12_deed_60 : decode cX12_deed 60 = .ok (.iload_n 2, 1) := by decide +kernel
theorem dX12_deed_61 : decode cX12_deed 61 = .ok (.iconst 1, 1) := by decide +kernel
theorem dX12_deed_62 : decode cX12_deed 62 = .ok (.if_icmp .ne 7, 3) := by decide +kernel
theorem dX12_deed_65 : decode cX12_deed 65 = .ok (.iload_n 3, 1) := by decide +kernel
theorem dX12_deed_66 : decode cX12_deed 66 = .ok (.goto 12, 3) := by decide +kernel
theorem dX12_deed_69 : decode cX12_deed 69 = .ok (.iload_n 3, 1) := by decide +kernel
theorem dX12_deed_70 : decode cX12_deed 70 = .ok (.ifCond .ne 7, 3) := by decide +kernel
theorem dX12_deed_73 : decode cX12_deed 73 = .ok (.iconst 1, 1) := by decide +kernel
theorem dX12_deed_74 : decode cX12_deed 74 = .ok (.goto 4, 3) := by decide +kernel
theorem dX12_deed_77 : decode cX12_deed 77 = .ok (.iconst 0, 1) := by decide +kernel
theorem dX12_deed_78 : decode cX12_deed 78 = .ok (.ireturn, 1) := by decide +kernel
def fX12_deed (x1 : Int32) (x2 : Int32) (M : zM) : Option (Int32 × zM) := zlet (zSI M 36 12 0) fun (M2 : zM) =>
  zj (fun (_ : Unit) =>
  zlet ((fX12_lost M2).2) fun (M23 : zM) =>
  some ((fX12_lost M2).1, M23))
  fun J2 =>
  if (fX12_isDeed x1 M2) = 0 then (
  J2 ())
  else (
  if (fX12_in x2 0 2) = 0 then (
  J2 ())
  else (
  if zin x1 6 then (
  (fX12_hadBy 37 6 M2).bind fun (r5 : Int32) =>
  zlet ((M2.1 40 x1.toNatClampNeg) &&& (r5 ^^^ (-1))) fun (x3_46 : Int32) =>
  if x2 = 0 then (
  some (M2.1 40 x1.toNatClampNeg, M2))
  else (
  if x2 = 1 then (
  some (x3_46, M2))
  else (
  if x3_46 = 0 then (
  some (1, M2))
  else (
  some (0, M2))))) else none))
set_option maxHeartbeats 4000000 in
theorem cX12_deed_ok {E : zE} {d : Nat} (hd : 2 ≤ d) (x1 : Int32) (x2 : Int32) (M : zM) {K : (Int32 × zM) → Prop} (h : wpO (fX12_deed x1 x2 M) K) : CMi E d yX12_deed cX12_deed 4 (some .int) [.ref 36, .int x1, .int x2] M (fun r N => K (r, N)) := by
  refine CMi.of (by decide) (Nat.le_of_ble_eq_true rfl) (fun Γ hC hr => ?_)
  have hC : Cx E Γ RX12 cX12_deed 4 d := hC
  show G E Γ 4 0 [(0, .ref 36), (1, .int x1), (2, .int x2)] [] M
  unfold fX12_deed at h
  refine g_aload_n (i := 0) (x := 36) hC (dX12_deed_0) rfl rfl ?_
  refine g_iconst (v := 0) hC (dX12_deed_1) kc_0 ?_
  refine g_putI hC fpX12_86 (dX12_deed_2) rfl rfl rfl rfl ?_
  refine g_nmM (fun M2 e_M2 => ?_)
  have h := wpO_n e_M2 h
  refine g_aload_n (i := 0) (x := 36) hC (dX12_deed_5) rfl rfl ?_
  refine g_iload_n (i := 1) (x := x1) hC (dX12_deed_6) rfl rfl ?_
  refine g_callVi ([.int x1]) hC wvX12_230 (dX12_deed_7) rfl rfl (by omega) (Nat.le_of_ble_eq_true rfl) (cX12_isDeed_ok (by omega) x1 M2 (K := fun r => r = fX12_isDeed x1 M2) rfl) (fun r N q => ?_)
  obtain ⟨rfl, rfl⟩ := q
  refine wpO_j h (fun J2 hkJ2 h => ?_)
  have hJ2 : ∀ (_ : Unit), wpO (J2 ()) K → G E Γ 4 22 [(0, .ref 36)] [] M2 := by
    intro _ h
    have h := hkJ2 _ h
    refine g_aload_n (i := 0) (x := 36) hC (dX12_deed_22) rfl rfl ?_
    refine g_callVi ([]) hC wvX12_224 (dX12_deed_23) rfl rfl (by omega) (Nat.le_of_ble_eq_true rfl) (cX12_lost_ok (by omega) M2 (K := fun r => r = fX12_lost M2) rfl) (fun r N q => ?_)
    obtain ⟨rfl, rfl⟩ : r = (fX12_lost M2).1 ∧ N = (fX12_lost M2).2 := ⟨congrArg Prod.fst q, congrArg Prod.snd q⟩
    refine g_nmM (fun M23 e_M23 => ?_)
    have h := wpO_n e_M23 h
    refine g_ireturn hC hr (dX12_deed_26) ?_
    exact wpO_s h
  refine g_if_eq (tgt := 22) hC (dX12_deed_10) (by decide) (fun c10 => ?_) (fun c10 => ?_)
  · have h := wpO_t c10 h
    refine g_sub (lv' := [(0, .ref 36)]) [0] rfl ?_
    exact hJ2 () h
  · have h := wpO_f c10 h
    refine g_iload_n (i := 2) (x := x2) hC (dX12_deed_13) rfl rfl ?_
    refine g_iconst (v := 0) hC (dX12_deed_14) kc_0 ?_
    refine g_iconst (v := 2) hC (dX12_deed_15) kc_2 ?_
    refine g_callSi ([.int x2, .int 0, .int 2]) hC wsX12_95 (dX12_deed_16) rfl (by omega) (Nat.le_of_ble_eq_true rfl) (cX12_in_ok (by omega) x2 0 2 M2 (K := fun r => r = fX12_in x2 0 2) rfl) (fun r N q => ?_)
    obtain ⟨rfl, rfl⟩ := q
    refine g_if_ne (tgt := 27) hC (dX12_deed_19) (by decide) (fun c19 => ?_) (fun c19 => ?_)
    · have h := wpO_f c19 h
      refine g_aload_n (i := 0) (x := 36) hC (dX12_deed_27) rfl rfl ?_
      refine g_getR (r := 40) hC flX12_26 (dX12_deed_28) rfl rfl rfl ?_
      refine g_iload_n (i := 1) (x := x1) hC (dX12_deed_31) rfl rfl ?_
      obtain ⟨q4, h⟩ := wpO_g h
      refine g_iaload (n := 6) hC (dX12_deed_32) rfl q4 ?_
      refine g_aload_n (i := 0) (x := 36) hC (dX12_deed_33) rfl rfl ?_
      refine g_aload_n (i := 0) (x := 36) hC (dX12_deed_34) rfl rfl ?_
      refine g_getR (r := 37) hC flX12_9 (dX12_deed_35) rfl rfl rfl ?_
      refine g_bipush (v := 6) hC (dX12_deed_38) kb_6 ?_
      have h := wpO_b h
      refine g_callVi ([.ref 37, .int 6]) hC wvX12_213 (dX12_deed_40) rfl rfl (by omega) (Nat.le_of_ble_eq_true rfl) (cX12_hadBy_ok (by omega) 37 6 M2 h) (fun r5 N q => ?_)
      obtain ⟨rfl, h⟩ := q
      refine g_iconst (v := (-1)) hC (dX12_deed_43) kc_m1 ?_
      refine g_ixor hC (dX12_deed_44) ?_
      refine g_iand hC (dX12_deed_45) ?_
      refine g_nmi (fun x3_46 e_x3_46 => ?_)
      have h := wpO_n e_x3_46 h
      refine g_istore_n (i := 3) (lv2 := [(3, .int x3_46), (0, .ref 36), (1, .int x1), (2, .int x2)]) hC (dX12_deed_46) rfl (by decide) rfl ?_
      refine g_iload_n (i := 2) (x := x2) hC (dX12_deed_47) rfl rfl ?_
      refine g_if_ne (tgt := 60) hC (dX12_deed_48) (by decide) (fun c48 => ?_) (fun c48 => ?_)
      · have h := wpO_f c48 h
        refine g_iload_n (i := 2) (x := x2) hC (dX12_deed_60) rfl rfl ?_
        refine g_iconst (v := 1) hC (dX12_deed_61) kc_1 ?_
        refine g_icmp_ne (tgt := 69) hC (dX12_deed_62) (by decide) (fun c62 => ?_) (fun c62 => ?_)
        · have h := wpO_f c62 h
          refine g_iload_n (i := 3) (x := x3_46) hC (dX12_deed_69) rfl rfl ?_
          refine g_if_ne (tgt := 77) hC (dX12_deed_70) (by decide) (fun c70 => ?_) (fun c70 => ?_)
          · have h := wpO_f c70 h
            refine g_iconst (v := 0) hC (dX12_deed_77) kc_0 ?_
            refine g_ireturn hC hr (dX12_deed_78) ?_
            exact wpO_s h
          · have h := wpO_t c70 h
            refine g_iconst (v := 1) hC (dX12_deed_73) kc_1 ?_
            refine g_goto (tgt := 78) hC (dX12_deed_74) (by decide) ?_
            refine g_ireturn hC hr (dX12_deed_78) ?_
            exact wpO_s h
        · have h := wpO_t c62 h
          refine g_iload_n (i := 3) (x := x3_46) hC (dX12_deed_65) rfl rfl ?_
          refine g_goto (tgt := 78) hC (dX12_deed_66) (by decide) ?_
          refine g_ireturn hC hr (dX12_deed_78) ?_
          exact wpO_s h
      · have h := wpO_t c48 h
        refine g_aload_n (i := 0) (x := 36) hC (dX12_deed_51) rfl rfl ?_
        refine g_getR (r := 40) hC flX12_26 (dX12_deed_52) rfl rfl rfl ?_
        refine g_iload_n (i := 1) (x := x1) hC (dX12_deed_55) rfl rfl ?_
        refine g_iaload (n := 6) hC (dX12_deed_56) rfl q4 ?_
        refine g_goto (tgt := 78) hC (dX12_deed_57) (by decide) ?_
        refine g_ireturn hC hr (dX12_deed_78) ?_
        exact wpO_s h
    · have h := wpO_t c19 h
      refine g_sub (lv' := [(0, .ref 36)]) [0] rfl ?_
      exact hJ2 () h
/-! LostByStateModel.set(II)I -/
theorem dX12_set_0 : decode cX12_set 0 = .ok (.aload_n 0, 1) := by decide +kernel
theorem dX12_set_1 : decode cX12_set 1 = .ok (.iconst 0, 1) := by decide +kernel
theorem dX12_set_2 : decode cX12_set 2 = .ok (.putfield 86, 3) := by decide +kernel
theorem dX12_set_5 : decode cX12_set 5 = .ok (.iload_n 1, 1) := by decide +kernel
theorem dX12_set_6 : decode cX12_set 6 = .ok (.ifCond .ne 16, 3) := by decide +kernel
theorem dX12_set_9 : decode cX12_set 9 = .ok (.iload_n 2, 1) := by decide +kernel
theorem dX12_set_10 : decode cX12_set 10 = .ok (.iconst 1, 1) := by decide +kernel
theorem dX12_set_11 : decode cX12_set 11 = .ok (.bipush 99, 2) := by decide +kernel
theorem dX12_set_13 : decode cX12_set 13 = .ok (.invokestatic 95, 3) := by decide +kernel
theorem dX12_set_16 : decode cX12_set 16 = .ok (.ifCond .ne 24, 3) := by decide +kernel
theorem dX12_set_19 : decode cX12_set 19 = .ok (.goto 19, 3) := by decide +kernel
theorem dX12_set_22 : decode cX12_set 22 = .ok (.iload_n 1, 1) := by decide +kernel
theorem dX12_set_23 : decode cX12_set 23 = .ok (.iconst 1, 1) := by decide +kernel
theorem dX12_set_24 : decode cX12_set 24 = .ok (.if_icmp .ne 14, 3) := by decide +kernel
theorem dX12_set_27 : decode cX12_set 27 = .ok (.iload_n 2, 1) := by decide +kernel
theorem dX12_set_28 : decode cX12_set 28 = .ok (.bipush (-99), 2) := by decide +kernel
theorem dX12_set_30 : decode cX12_set 30 = .ok (.bipush 99, 2) := by decide +kernel
theorem dX12_set_32 : decode cX12_set 32 = .ok (.invokestatic 95, 3) := by decide +kernel
theorem dX12_set_35 : decode cX12_set 35 = .ok (.ifCond .ne 5, 3) := by decide +kernel
theorem dX12_set_38 : decode cX12_set 38 = .ok (.iconst (-1), 1) := by decide +kernel
theorem dX12_set_39 : decode cX12_set 39 = .ok (.ireturn, 1) := by decide +kernel
theorem dX12_set_40 : decode cX12_set 40 = .ok (.iload_n 1, 1) := by decide +kernel
theorem dX12_set_41 : decode cX12_set 41 = .ok (.ifCond .ne 10, 3) := by decide +kernel
theorem dX12_set_44 : decode cX12_set 44 = .ok (.aload_n 0, 1) := by decide +kernel
theorem dX12_set_45 : decode cX12_set 45 = .ok (.getfield 13, 3) := by decide +kernel
theorem dX12_set_48 : decode cX12_set 48 = .ok (.goto 7, 3) := by decide +kernel
theorem dX12_set_51 : decode cX12_set 51 = .ok (.aload_n 0, 1) := by decide +kernel
theorem dX12_set_52 : decode cX12_set 52 = .ok (.getfield 17, 3) := by decide +kernel
theorem dX12_set_55 : decode cX12_set 55 = .ok (.istore_n 3, 1) := by decide +kernel
theorem dX12_set_56 : decode cX12_set 56 = .ok (.iload_n 1, 1) := by decide +kernel
theorem dX12_set_57 : decode cX12_set 57 = .ok (.ifCond .ne 11, 3) := by decide +kernel
theorem dX12_set_60 : decode cX12_set 60 = .ok (.aload_n 0, 1) := by decide +kernel
theorem dX12_set_61 : decode cX12_set 61 = .ok (.iload_n 2, 1) := by decide +kernel
theorem dX12_set_62 : decode cX12_set 62 = .ok (.putfield 13, 3) := by decide +kernel
theorem dX12_set_65 : decode cX12_set 65 = .ok (.goto 8, 3) := by decide +kernel
theorem dX12_set_68 : decode cX12_set 68 = .ok (.aload_n 0, 1) := by decide +kernel
theorem dX12_set_69 : decode cX12_set 69 = .ok (.iload_n 2, 1) := by decide +kernel
theorem dX12_set_70 : decode cX12_set 70 = .ok (.putfield 17, 3) := by decide +kernel
theorem dX12_set_73 : decode cX12_set 73 = .ok (.bipush 100, 2) := by decide +kernel
theorem dX12_set_75 : decode cX12_set 75 = .ok (.iload_n 3, 1) := by decide +kernel
theorem dX12_set_76 : decode cX12_set 76 = .ok (.iadd, 1) := by decide +kernel
theorem dX12_set_77 : decode cX12_set 77 = .ok (.ireturn, 1) := by decide +kernel
def fX12_set (x1 : Int32) (x2 : Int32) (M : zM) : Int32 × zM := zlet (zSI M 36 12 0) fun (M2 : zM) =>
  zj (fun (_ : Unit) =>
  zlet (if x1 = 0 then (
  (M2.1 36 3))
  else (
  (M2.1 36 4))) fun (s0_55 : Int32) =>
  zlet (if x1 = 0 then (
  zlet (zSI M2 36 3 x2) fun (M62 : zM) =>
  M62)
  else (
  zlet (zSI M2 36 4 x2) fun (M70 : zM) =>
  M70)) fun (M_73 : zM) =>
  (100 + s0_55, M_73))
  fun J1 =>
  if x1 = 0 then (
  if (fX12_in x2 1 99) = 0 then (
  ((-1), M2))
  else (
  J1 ()))
  else (
  if x1 = 1 then (
  if (fX12_in x2 (-99) 99) = 0 then (
  ((-1), M2))
  else (
  J1 ()))
  else (
  ((-1), M2)))
set_option maxHeartbeats 4000000 in
theorem cX12_set_ok {E : zE} {d : Nat} (hd : 1 ≤ d) (x1 : Int32) (x2 : Int32) (M : zM) {K : (Int32 × zM) → Prop} (h : wpI (fX12_set x1 x2 M) K) : CMi E d yX12_set cX12_set 4 (some .int) [.ref 36, .int x1, .int x2] M (fun r N => K (r, N)) := by
  refine CMi.of (by decide) (Nat.le_of_ble_eq_true rfl) (fun Γ hC hr => ?_)
  have hC : Cx E Γ RX12 cX12_set 4 d := hC
  show G E Γ 4 0 [(0, .ref 36), (1, .int x1), (2, .int x2)] [] M
  unfold fX12_set at h
  refine g_aload_n (i := 0) (x := 36) hC (dX12_set_0) rfl rfl ?_
  refine g_iconst (v := 0) hC (dX12_set_1) kc_0 ?_
  refine g_putI hC fpX12_86 (dX12_set_2) rfl rfl rfl rfl ?_
  refine g_nmM (fun M2 e_M2 => ?_)
  have h := wpI_n e_M2 h
  refine g_iload_n (i := 1) (x := x1) hC (dX12_set_5) rfl rfl ?_
  refine wpI_j h (fun J1 hkJ1 h => ?_)
  have hJ1 : ∀ (_ : Unit), wpI (J1 ()) K → G E Γ 4 40 [(0, .ref 36), (1, .int x1), (2, .int x2)] [] M2 := by
    intro _ h
    have h := hkJ1 _ h
    refine g_iload_n (i := 1) (x := x1) hC (dX12_set_40) rfl rfl ?_
    obtain ⟨s0_55, e_s0_55, h⟩ := wpI_l h
    have hJ4 : G E Γ 4 55 [(0, .ref 36), (1, .int x1), (2, .int x2)] [.int s0_55] M2 := by
      refine g_istore_n (i := 3) (lv2 := [(3, .int s0_55), (0, .ref 36), (1, .int x1), (2, .int x2)]) hC (dX12_set_55) rfl (by decide) rfl ?_
      refine g_iload_n (i := 1) (x := x1) hC (dX12_set_56) rfl rfl ?_
      obtain ⟨M_73, e_M_73, h⟩ := wpI_l h
      have hJ5 : G E Γ 4 73 [(3, .int s0_55)] [] M_73 := by
        refine g_bipush (v := 100) hC (dX12_set_73) kb_100 ?_
        refine g_iload_n (i := 3) (x := s0_55) hC (dX12_set_75) rfl rfl ?_
        refine g_iadd hC (dX12_set_76) ?_
        refine g_ireturn hC hr (dX12_set_77) ?_
        exact wpI_s h
      refine g_if_ne (tgt := 68) hC (dX12_set_57) (by decide) (fun c57 => ?_) (fun c57 => ?_)
      · rw [if_neg c57] at e_M_73
        refine g_aload_n (i := 0) (x := 36) hC (dX12_set_68) rfl rfl ?_
        refine g_iload_n (i := 2) (x := x2) hC (dX12_set_69) rfl rfl ?_
        refine g_putI hC fpX12_17 (dX12_set_70) rfl rfl rfl rfl ?_
        refine g_nmM (fun M70 e_M70 => ?_)
        have e_M_73 := zle e_M70 e_M_73
        refine g_sub (lv' := [(3, .int s0_55)]) [0] rfl ?_
        subst e_M_73
        exact hJ5
      · rw [if_pos c57] at e_M_73
        refine g_aload_n (i := 0) (x := 36) hC (dX12_set_60) rfl rfl ?_
        refine g_iload_n (i := 2) (x := x2) hC (dX12_set_61) rfl rfl ?_
        refine g_putI hC fpX12_13 (dX12_set_62) rfl rfl rfl rfl ?_
        refine g_nmM (fun M62 e_M62 => ?_)
        have e_M_73 := zle e_M62 e_M_73
        refine g_goto (tgt := 73) hC (dX12_set_65) (by decide) ?_
        refine g_sub (lv' := [(3, .int s0_55)]) [0] rfl ?_
        subst e_M_73
        exact hJ5
    refine g_if_ne (tgt := 51) hC (dX12_set_41) (by decide) (fun c41 => ?_) (fun c41 => ?_)
    · rw [if_neg c41] at e_s0_55
      refine g_aload_n (i := 0) (x := 36) hC (dX12_set_51) rfl rfl ?_
      refine g_getI hC flX12_17 (dX12_set_52) rfl rfl ?_
      subst e_s0_55
      exact hJ4
    · rw [if_pos c41] at e_s0_55
      refine g_aload_n (i := 0) (x := 36) hC (dX12_set_44) rfl rfl ?_
      refine g_getI hC flX12_13 (dX12_set_45) rfl rfl ?_
      refine g_goto (tgt := 55) hC (dX12_set_48) (by decide) ?_
      subst e_s0_55
      exact hJ4
  refine g_if_ne (tgt := 22) hC (dX12_set_6) (by decide) (fun c6 => ?_) (fun c6 => ?_)
  · have h := wpI_f c6 h
    refine g_iload_n (i := 1) (x := x1) hC (dX12_set_22) rfl rfl ?_
    refine g_iconst (v := 1) hC (dX12_set_23) kc_1 ?_
    refine g_icmp_ne (tgt := 38) hC (dX12_set_24) (by decide) (fun c24 => ?_) (fun c24 => ?_)
    · have h := wpI_f c24 h
      refine g_iconst (v := (-1)) hC (dX12_set_38) kc_m1 ?_
      refine g_ireturn hC hr (dX12_set_39) ?_
      exact wpI_s h
    · have h := wpI_t c24 h
      refine g_iload_n (i := 2) (x := x2) hC (dX12_set_27) rfl rfl ?_
      refine g_bipush (v := (-99)) hC (dX12_set_28) kb_m99 ?_
      refine g_bipush (v := 99) hC (dX12_set_30) kb_99 ?_
      refine g_callSi ([.int x2, .int (-99), .int 99]) hC wsX12_95 (dX12_set_32) rfl (by omega) (Nat.le_of_ble_eq_true rfl) (cX12_in_ok (by omega) x2 (-99) 99 M2 (K := fun r => r = fX12_in x2 (-99) 99) rfl) (fun r N q => ?_)
      obtain ⟨rfl, rfl⟩ := q
      refine g_if_ne (tgt := 40) hC (dX12_set_35) (by decide) (fun c35 => ?_) (fun c35 => ?_)
      · have h := wpI_f c35 h
        exact hJ1 () h
      · have h := wpI_t c35 h
        refine g_iconst (v := (-1)) hC (dX12_set_38) kc_m1 ?_
        refine g_ireturn hC hr (dX12_set_39) ?_
        exact wpI_s h
  · have h := wpI_t c6 h
    refine g_iload_n (i := 2) (x := x2) hC (dX12_set_9) rfl rfl ?_
    refine g_iconst (v := 1) hC (dX12_set_10) kc_1 ?_
    refine g_bipush (v := 99) hC (dX12_set_11) kb_99 ?_
    refine g_callSi ([.int x2, .int 1, .int 99]) hC wsX12_95 (dX12_set_13) rfl (by omega) (Nat.le_of_ble_eq_true rfl) (cX12_in_ok (by omega) x2 1 99 M2 (K := fun r => r = fX12_in x2 1 99) rfl) (fun r N q => ?_)
    obtain ⟨rfl, rfl⟩ := q
    refine g_if_ne (tgt := 40) hC (dX12_set_16) (by decide) (fun c16 => ?_) (fun c16 => ?_)
    · have h := wpI_f c16 h
      exact hJ1 () h
    · have h := wpI_t c16 h
      refine g_goto (tgt := 38) hC (dX12_set_19) (by decide) ?_
      refine g_iconst (v := (-1)) hC (dX12_set_38) kc_m1 ?_
      refine g_ireturn hC hr (dX12_set_39) ?_
      exact wpI_s h
/-! LostByStateModel.sheet(IIII)I -/
theorem dX12_sheet_0 : decode cX12_sheet 0 = .ok (.aload_n 0, 1) := by decide +kernel
theorem dX12_sheet_1 : decode cX12_sheet 1 = .ok (.iconst 0, 1) := by decide +kernel
theorem dX12_sheet_2 : decode cX12_sheet 2 = .ok (.putfield 86, 3) := by decide +kernel
theorem dX12_sheet_5 : decode cX12_sheet 5 = .ok (.iload_n 1, 1) := by decide +kernel
theorem dX12_sheet_6 : decode cX12_sheet 6 = .ok (.iconst 0, 1) := by decide +kernel
theorem dX12_sheet_7 : decode cX12_sheet 7 = .ok (.iconst 3, 1) := by decide +kernel
theorem dX12_sheet_8 : decode cX12_sheet 8 = .ok (.invokestatic 95, 3) := by decide +kernel
theorem dX12_sheet_11 : decode cX12_sheet 11 = .ok (.ifCond .eq 9, 3) := by decide +kernel
theorem dX12_sheet_14 : decode cX12_sheet 14 = .ok (.iload_n 2, 1) := by decide +kernel
theorem dX12_sheet_15 : decode cX12_sheet 15 = .ok (.bipush 8, 2) := by decide +kernel
theorem dX12_sheet_17 : decode cX12_sheet 17 = .ok (.if_icmp .le 5, 3) := by decide +kernel
theorem dX12_sheet_20 : decode cX12_sheet 20 = .ok (.iconst (-1), 1) := by decide +kernel
theorem dX12_sheet_21 : decode cX12_sheet 21 = .ok (.ireturn, 1) := by decide +kernel
theorem dX12_sheet_22 : decode cX12_sheet 22 = .ok (.iload_n 1, 1) := by decide +kernel
theorem dX12_sheet_23 : decode cX12_sheet 23 = .ok (.iconst 3, 1) := by decide +kernel
theorem dX12_sheet_24 : decode cX12_sheet 24 = .ok (.if_icmp .ge 10, 3) := by decide +kernel
theorem dX12_sheet_27 : decode cX12_sheet 27 = .ok (.iload_n 2, 1) := by decide +kernel
theorem dX12_sheet_28 : decode cX12_sheet 28 = .ok (.ifCond .ge 6, 3) := by decide +kernel
theorem dX12_sheet_31 : decode cX12_sheet 31 = .ok (.bipush (-2), 2) := by decide +kernel
theorem dX12_sheet_33 : decode cX12_sheet 33 = .ok (.ireturn, 1) := by decide +kernel
theorem dX12_sheet_34 : decode cX12_sheet 34 = .ok (.iload_n 3, 1) := by decide +kernel
theorem dX12_sheet_35 : decode cX12_sheet 35 = .ok (.istore 5, 2) := by decide +kernel
theorem dX12_sheet_37 : decode cX12_sheet 37 = .ok (.iconst 0, 1) := by decide +kernel
theorem dX12_sheet_38 : decode cX12_sheet 38 = .ok (.istore 6, 2) := by decide +kernel
theorem dX12_sheet_40 : decode cX12_sheet 40 = .ok (.iload 6, 2) := by decide +kernel
theorem dX12_sheet_42 : decode cX12_sheet 42 = .ok (.aload_n 0, 1) := by decide +kernel
theorem dX12_sheet_43 : decode cX12_sheet 43 = .ok (.getfield 92, 3) := by decide +kernel
theorem dX12_sheet_46 : decode cX12_sheet 46 = .ok (.if_icmp .ge 74, 3) := by decide +kernel
theorem dX12_sheet_49 : decode cX12_sheet 49 = .ok (.iload_n 1, 1) := by decide +kernel
theorem dX12_sheet_50 : decode cX12_sheet 50 = .ok (.ifCond .ne 9, 3) := by decide +kernel
theorem dX12_sheet_53 : decode cX12_sheet 53 = .ok (.iload 5, 2) := by decide +kernel
theorem dX12_sheet_55 : decode cX12_sheet 55 = .ok (.i2b, 1) := by decide +kernel
theorem dX12_sheet_56 : decode cX12_sheet 56 = .ok (.goto 16, 3) := by decide +kernel
theorem dX12_sheet_59 : decode cX12_sheet 59 = .ok (.iload_n 1, 1) := by decide +kernel
theorem dX12_sheet_60 : decode cX12_sheet 60 = .ok (.iconst 1, 1) := by decide +kernel
theorem dX12_sheet_61 : decode cX12_sheet 61 = .ok (.if_icmp .ne 9, 3) := by decide +kernel
theorem dX12_sheet_64 : decode cX12_sheet 64 = .ok (.iload 5, 2) := by decide +kernel
theorem dX12_sheet_66 : decode cX12_sheet 66 = .ok (.i2s, 1) := by decide +kernel
theorem dX12_sheet_67 : decode cX12_sheet 67 = .ok (.goto 5, 3) := by decide +kernel
theorem dX12_sheet_70 : decode cX12_sheet 70 = .ok (.iload 5, 2) := by decide +kernel
theorem dX12_sheet_72 : decode cX12_sheet 72 = .ok (.istore 7, 2) := by decide +kernel
theorem dX12_sheet_74 : decode cX12_sheet 74 = .ok (.aload_n 0, 1) := by decide +kernel
theorem dX12_sheet_75 : decode cX12_sheet 75 = .ok (.getfield 23, 3) := by decide +kernel
theorem dX12_sheet_78 : decode cX12_sheet 78 = .ok (.iload 6, 2) := by decide +kernel
theorem dX12_sheet_80 : decode cX12_sheet 80 = .ok (.iload_n 1, 1) := by decide +kernel
theorem dX12_sheet_81 : decode cX12_sheet 81 = .ok (.iconst 3, 1) := by decide +kernel
theorem dX12_sheet_82 : decode cX12_sheet 82 = .ok (.if_icmp .eq 9, 3) := by decide +kernel
theorem dX12_sheet_85 : decode cX12_sheet 85 = .ok (.iload 6, 2) := by decide +kernel
theorem dX12_sheet_87 : decode cX12_sheet 87 = .ok (.iload_n 2, 1) := by decide +kernel
theorem dX12_sheet_88 : decode cX12_sheet 88 = .ok (.if_icmp .lt 7, 3) := by decide +kernel
theorem dX12_sheet_91 : decode cX12_sheet 91 = .ok (.iconst 1, 1) := by decide +kernel
theorem dX12_sheet_92 : decode cX12_sheet 92 = .ok (.goto 14, 3) := by decide +kernel
theorem dX12_sheet_95 : decode cX12_sheet 95 = .ok (.iconst 1, 1) := by decide +kernel
theorem dX12_sheet_96 : decode cX12_sheet 96 = .ok (.bipush 9, 2) := by decide +kernel
theorem dX12_sheet_98 : decode cX12_sheet 98 = .ok (.iload 7, 2) := by decide +kernel
theorem dX12_sheet_100 : decode cX12_sheet 100 = .ok (.invokestatic 201, 3) := by decide +kernel
theorem dX12_sheet_103 : decode cX12_sheet 103 = .ok (.invokestatic 206, 3) := by decide +kernel
theorem dX12_sheet_106 : decode cX12_sheet 106 = .ok (.iastore, 1) := by decide +kernel
theorem dX12_sheet_107 : decode cX12_sheet 107 = .ok (.iload 5, 2) := by decide +kernel
theorem dX12_sheet_109 : decode cX12_sheet 109 = .ok (.iload 4, 2) := by decide +kernel
theorem dX12_sheet_111 : decode cX12_sheet 111 = .ok (.iadd, 1) := by decide +kernel
theorem dX12_sheet_112 : decode cX12_sheet 112 = .ok (.istore 5, 2) := by decide +kernel
theorem dX12_sheet_114 : decode cX12_sheet 114 = .ok (.iinc 6 1, 3) := by decide +kernel
theorem dX12_sheet_117 : decode cX12_sheet 117 = .ok (.goto (-77), 3) := by decide +kernel
theorem dX12_sheet_120 : decode cX12_sheet 120 = .ok (.iload_n 1, 1) := by decide +kernel
theorem dX12_sheet_121 : decode cX12_sheet 121 = .ok (.iconst 3, 1) := by decide +kernel
theorem dX12_sheet_122 : decode cX12_sheet 122 = .ok (.if_icmp .ne 8, 3) := by decide +kernel
theorem dX12_sheet_125 : decode cX12_sheet 125 = .ok (.bipush (-3), 2) := by decide +kernel
theorem dX12_sheet_127 : decode cX12_sheet 127 = .ok (.goto 11, 3) := by decide +kernel
theorem dX12_sheet_130 : decode cX12_sheet 130 = .ok (.aload_n 0, 1) := by decide +kernel
theorem dX12_sheet_131 : decode cX12_sheet 131 = .ok (.aload_n 0, 1) := by decide +kernel
theorem dX12_sheet_132 : decode cX12_sheet 132 = .ok (.invokevirtual 233, 3) := by decide +kernel
theorem dX12_sheet_135 : decode cX12_sheet 135 = .ok (.invokevirtual 236, 3) := by decide +kernel
theorem dX12_sheet_138 : decode cX12_sheet 138 = .ok (.ireturn, 1) := by decide +kernel
def fX12_sheet_L40 (x1 : Int32) (x2 : Int32) (x4 : Int32) : Nat → Int32 → Int32 → zM → Option zM
  | 0, _, _, _ => none
  | n + 1, x5, x6, M => if (M.1 36 1) ≤ x6 then (
    some M)
    else (
    zlet (if x1 = 0 then (
    x5.toInt8.toInt32)
    else (
    if x1 = 1 then (
    x5.toInt16.toInt32)
    else (
    x5))) fun (s0_72 : Int32) =>
    zlet (if x1 = 3 then (
    1)
    else (
    if x6 < x2 then (
    (zmax 1 (zmin 9 s0_72)))
    else (
    1))) fun (s0_106 : Int32) =>
    if zin x6 8 then (
    zlet (zSI M 39 x6.toNatClampNeg s0_106) fun (M106 : zM) =>
    zlet (x5 + x4) fun (x5_112 : Int32) =>
    fX12_sheet_L40 x1 x2 x4 n x5_112 (x6 + 1) M106) else none)
def fX12_sheet (x1 : Int32) (x2 : Int32) (x3 : Int32) (x4 : Int32) (M : zM) : Option (Int32 × zM) := zlet (zSI M 36 12 0) fun (M2 : zM) =>
  if (fX12_in x1 0 3) = 0 then (
  some ((-1), M2))
  else (
  if x2 ≤ 8 then (
  zj (fun (_ : Unit) =>
  (fX12_sheet_L40 x1 x2 x4 4000 x3 0 M2).bind fun (M_120 : zM) =>
  if x1 = 3 then (
  some ((-3), M_120))
  else (
  (fX12_worthOf (fX12_all M_120) M_120).bind fun (r7 : Int32) =>
  some (r7, M_120)))
  fun J2 =>
  if 3 ≤ x1 then (
  J2 ())
  else (
  if 0 ≤ x2 then (
  J2 ())
  else (
  some ((-2), M2))))
  else (
  some ((-1), M2)))
set_option maxHeartbeats 4000000 in
theorem lX12_sheet_40 {E : zE} {Γ : zT} {d : Nat} {K1 : zM → Prop} (hC : Cx E Γ RX12 cX12_sheet 8 d) (hd : 2 ≤ d) (x1 : Int32) (x2 : Int32) (x4 : Int32) (hx : ∀ (M_120 : zM), K1 M_120 → G E Γ 8 120 [(0, .ref 36), (1, .int x1)] [] M_120) :
    ∀ (n : Nat) (x5 : Int32) (x6 : Int32) (M : zM), wpO (fX12_sheet_L40 x1 x2 x4 n x5 x6 M) K1 → G E Γ 8 40 [(0, .ref 36), (1, .int x1), (2, .int x2), (4, .int x4), (5, .int x5), (6, .int x6)] [] M := by
  intro n
  induction n with
  | zero =>
    intro x5 x6 M h
    exact (wpO_0 h).elim
  | succ n ih =>
    intro x5 x6 M h
    rw [fX12_sheet_L40.eq_2] at h
    refine g_iload (i := 6) (x := x6) hC (dX12_sheet_40) rfl ?_
    refine g_aload_n (i := 0) (x := 36) hC (dX12_sheet_42) rfl rfl ?_
    refine g_getI hC flX12_92 (dX12_sheet_43) rfl rfl ?_
    refine g_icmp_ge (tgt := 120) hC (dX12_sheet_46) (by decide) (fun c46 => ?_) (fun c46 => ?_)
    · have h := wpO_t c46 h
      refine g_sub (lv' := [(0, .ref 36), (1, .int x1)]) [0, 1] rfl ?_
      exact hx _ (wpO_s h)
    · have h := wpO_f c46 h
      refine g_iload_n (i := 1) (x := x1) hC (dX12_sheet_49) rfl rfl ?_
      obtain ⟨s0_72, e_s0_72, h⟩ := wpO_l h
      have hJ3 : G E Γ 8 72 [(0, .ref 36), (1, .int x1), (2, .int x2), (4, .int x4), (5, .int x5), (6, .int x6)] [.int s0_72] M := by
        refine g_istore (i := 7) (lv2 := [(7, .int s0_72), (0, .ref 36), (1, .int x1), (2, .int x2), (4, .int x4), (5, .int x5), (6, .int x6)]) hC (dX12_sheet_72) (by decide) rfl ?_
        refine g_aload_n (i := 0) (x := 36) hC (dX12_sheet_74) rfl rfl ?_
        refine g_getR (r := 39) hC flX12_23 (dX12_sheet_75) rfl rfl rfl ?_
        refine g_iload (i := 6) (x := x6) hC (dX12_sheet_78) rfl ?_
        refine g_iload_n (i := 1) (x := x1) hC (dX12_sheet_80) rfl rfl ?_
        refine g_iconst (v := 3) hC (dX12_sheet_81) kc_3 ?_
        obtain ⟨s0_106, e_s0_106, h⟩ := wpO_l h
        have hJ4 : G E Γ 8 106 [(0, .ref 36), (1, .int x1), (2, .int x2), (4, .int x4), (5, .int x5), (6, .int x6)] [.int s0_106, .int x6, .ref 39] M := by
          obtain ⟨q5, h⟩ := wpO_g h
          refine g_iastore (n := 8) hC (dX12_sheet_106) rfl q5 ?_
          refine g_nmM (fun M106 e_M106 => ?_)
          have h := wpO_n e_M106 h
          refine g_iload (i := 5) (x := x5) hC (dX12_sheet_107) rfl ?_
          refine g_iload (i := 4) (x := x4) hC (dX12_sheet_109) rfl ?_
          refine g_iadd hC (dX12_sheet_111) ?_
          refine g_nmi (fun x5_112 e_x5_112 => ?_)
          have h := wpO_n e_x5_112 h
          refine g_istore (i := 5) (lv2 := [(5, .int x5_112), (0, .ref 36), (1, .int x1), (2, .int x2), (4, .int x4), (6, .int x6)]) hC (dX12_sheet_112) (by decide) rfl ?_
          refine g_iinc (x := x6) (v := (x6 + 1)) (lv2 := [(6, .int (x6 + 1)), (5, .int x5_112), (0, .ref 36), (1, .int x1), (2, .int x2), (4, .int x4)]) hC (dX12_sheet_114) rfl rfl (by decide) rfl ?_
          refine g_goto (tgt := 40) hC (dX12_sheet_117) (by decide) ?_
          refine g_sub (lv' := [(0, .ref 36), (1, .int x1), (2, .int x2), (4, .int x4), (5, .int x5_112), (6, .int (x6 + 1))]) [2, 3, 4, 5, 1, 0] rfl ?_
          exact ih _ _ _ h
        refine g_icmp_eq (tgt := 91) hC (dX12_sheet_82) (by decide) (fun c82 => ?_) (fun c82 => ?_)
        · rw [if_pos c82] at e_s0_106
          refine g_iconst (v := 1) hC (dX12_sheet_91) kc_1 ?_
          refine g_goto (tgt := 106) hC (dX12_sheet_92) (by decide) ?_
          refine g_sub (lv' := [(0, .ref 36), (1, .int x1), (2, .int x2), (4, .int x4), (5, .int x5), (6, .int x6)]) [1, 2, 3, 4, 5, 6] rfl ?_
          subst e_s0_106
          exact hJ4
        · rw [if_neg c82] at e_s0_106
          refine g_iload (i := 6) (x := x6) hC (dX12_sheet_85) rfl ?_
          refine g_iload_n (i := 2) (x := x2) hC (dX12_sheet_87) rfl rfl ?_
          refine g_icmp_lt (tgt := 95) hC (dX12_sheet_88) (by decide) (fun c88 => ?_) (fun c88 => ?_)
          · rw [if_pos c88] at e_s0_106
            refine g_iconst (v := 1) hC (dX12_sheet_95) kc_1 ?_
            refine g_bipush (v := 9) hC (dX12_sheet_96) kb_9 ?_
            refine g_iload (i := 7) (x := s0_72) hC (dX12_sheet_98) rfl ?_
            refine g_min hC wmX12_201 (dX12_sheet_100) (by omega) (Nat.le_of_ble_eq_true rfl) ?_
            refine g_max hC wmX12_206 (dX12_sheet_103) (by omega) (Nat.le_of_ble_eq_true rfl) ?_
            refine g_sub (lv' := [(0, .ref 36), (1, .int x1), (2, .int x2), (4, .int x4), (5, .int x5), (6, .int x6)]) [1, 2, 3, 4, 5, 6] rfl ?_
            subst e_s0_106
            exact hJ4
          · rw [if_neg c88] at e_s0_106
            refine g_iconst (v := 1) hC (dX12_sheet_91) kc_1 ?_
            refine g_goto (tgt := 106) hC (dX12_sheet_92) (by decide) ?_
            refine g_sub (lv' := [(0, .ref 36), (1, .int x1), (2, .int x2), (4, .int x4), (5, .int x5), (6, .int x6)]) [1, 2, 3, 4, 5, 6] rfl ?_
            subst e_s0_106
            exact hJ4
      refine g_if_ne (tgt := 59) hC (dX12_sheet_50) (by decide) (fun c50 => ?_) (fun c50 => ?_)
      · rw [if_neg c50] at e_s0_72
        refine g_iload_n (i := 1) (x := x1) hC (dX12_sheet_59) rfl rfl ?_
        refine g_iconst (v := 1) hC (dX12_sheet_60) kc_1 ?_
        refine g_icmp_ne (tgt := 70) hC (dX12_sheet_61) (by decide) (fun c61 => ?_) (fun c61 => ?_)
        · rw [if_neg c61] at e_s0_72
          refine g_iload (i := 5) (x := x5) hC (dX12_sheet_70) rfl ?_
          subst e_s0_72
          exact hJ3
        · rw [if_pos c61] at e_s0_72
          refine g_iload (i := 5) (x := x5) hC (dX12_sheet_64) rfl ?_
          refine g_i2s hC (dX12_sheet_66) ?_
          refine g_goto (tgt := 72) hC (dX12_sheet_67) (by decide) ?_
          subst e_s0_72
          exact hJ3
      · rw [if_pos c50] at e_s0_72
        refine g_iload (i := 5) (x := x5) hC (dX12_sheet_53) rfl ?_
        refine g_i2b hC (dX12_sheet_55) ?_
        refine g_goto (tgt := 72) hC (dX12_sheet_56) (by decide) ?_
        subst e_s0_72
        exact hJ3
set_option maxHeartbeats 4000000 in
theorem cX12_sheet_ok {E : zE} {d : Nat} (hd : 2 ≤ d) (x1 : Int32) (x2 : Int32) (x3 : Int32) (x4 : Int32) (M : zM) {K : (Int32 × zM) → Prop} (h : wpO (fX12_sheet x1 x2 x3 x4 M) K) : CMi E d yX12_sheet cX12_sheet 8 (some .int) [.ref 36, .int x1, .int x2, .int x3, .int x4] M (fun r N => K (r, N)) := by
  refine CMi.of (by decide) (Nat.le_of_ble_eq_true rfl) (fun Γ hC hr => ?_)
  have hC : Cx E Γ RX12 cX12_sheet 8 d := hC
  show G E Γ 8 0 [(0, .ref 36), (1, .int x1), (2, .int x2), (3, .int x3), (4, .int x4)] [] M
  unfold fX12_sheet at h
  refine g_aload_n (i := 0) (x := 36) hC (dX12_sheet_0) rfl rfl ?_
  refine g_iconst (v := 0) hC (dX12_sheet_1) kc_0 ?_
  refine g_putI hC fpX12_86 (dX12_sheet_2) rfl rfl rfl rfl ?_
  refine g_nmM (fun M2 e_M2 => ?_)
  have h := wpO_n e_M2 h
  refine g_iload_n (i := 1) (x := x1) hC (dX12_sheet_5) rfl rfl ?_
  refine g_iconst (v := 0) hC (dX12_sheet_6) kc_0 ?_
  refine g_iconst (v := 3) hC (dX12_sheet_7) kc_3 ?_
  refine g_callSi ([.int x1, .int 0, .int 3]) hC wsX12_95 (dX12_sheet_8) rfl (by omega) (Nat.le_of_ble_eq_true rfl) (cX12_in_ok (by omega) x1 0 3 M2 (K := fun r => r = fX12_in x1 0 3) rfl) (fun r N q => ?_)
  obtain ⟨rfl, rfl⟩ := q
  refine g_if_eq (tgt := 20) hC (dX12_sheet_11) (by decide) (fun c11 => ?_) (fun c11 => ?_)
  · have h := wpO_t c11 h
    refine g_iconst (v := (-1)) hC (dX12_sheet_20) kc_m1 ?_
    refine g_ireturn hC hr (dX12_sheet_21) ?_
    exact wpO_s h
  · have h := wpO_f c11 h
    refine g_iload_n (i := 2) (x := x2) hC (dX12_sheet_14) rfl rfl ?_
    refine g_bipush (v := 8) hC (dX12_sheet_15) kb_8 ?_
    refine g_icmp_le (tgt := 22) hC (dX12_sheet_17) (by decide) (fun c17 => ?_) (fun c17 => ?_)
    · have h := wpO_t c17 h
      refine g_iload_n (i := 1) (x := x1) hC (dX12_sheet_22) rfl rfl ?_
      refine g_iconst (v := 3) hC (dX12_sheet_23) kc_3 ?_
      refine wpO_j h (fun J2 hkJ2 h => ?_)
      have hJ2 : ∀ (_ : Unit), wpO (J2 ()) K → G E Γ 8 34 [(0, .ref 36), (1, .int x1), (2, .int x2), (3, .int x3), (4, .int x4)] [] M2 := by
        intro _ h
        have h := hkJ2 _ h
        refine g_iload_n (i := 3) (x := x3) hC (dX12_sheet_34) rfl rfl ?_
        refine g_istore (i := 5) (lv2 := [(5, .int x3), (0, .ref 36), (1, .int x1), (2, .int x2), (3, .int x3), (4, .int x4)]) hC (dX12_sheet_35) (by decide) rfl ?_
        refine g_iconst (v := 0) hC (dX12_sheet_37) kc_0 ?_
        refine g_istore (i := 6) (lv2 := [(6, .int 0), (5, .int x3), (0, .ref 36), (1, .int x1), (2, .int x2), (3, .int x3), (4, .int x4)]) hC (dX12_sheet_38) (by decide) rfl ?_
        refine g_sub (lv' := [(0, .ref 36), (1, .int x1), (2, .int x2), (4, .int x4), (5, .int x3), (6, .int 0)]) [2, 3, 4, 6, 1, 0] rfl ?_
        refine wpO_bJ h (fun KL40 hKL40 h => ?_)
        refine lX12_sheet_40 (K1 := KL40) hC (by omega) x1 x2 x4 (fun M_120 h => ?_) _ _ _ _ h
        have h := hKL40 _ h
        refine g_iload_n (i := 1) (x := x1) hC (dX12_sheet_120) rfl rfl ?_
        refine g_iconst (v := 3) hC (dX12_sheet_121) kc_3 ?_
        refine g_icmp_ne (tgt := 130) hC (dX12_sheet_122) (by decide) (fun c122 => ?_) (fun c122 => ?_)
        · have h := wpO_f c122 h
          refine g_aload_n (i := 0) (x := 36) hC (dX12_sheet_130) rfl rfl ?_
          refine g_aload_n (i := 0) (x := 36) hC (dX12_sheet_131) rfl rfl ?_
          refine g_callVi ([]) hC wvX12_233 (dX12_sheet_132) rfl rfl (by omega) (Nat.le_of_ble_eq_true rfl) (cX12_all_ok (by omega) M_120 (K := fun r => r = fX12_all M_120) rfl) (fun r N q => ?_)
          obtain ⟨rfl, rfl⟩ := q
          have h := wpO_b h
          refine g_callVi ([.int (fX12_all M_120)]) hC wvX12_236 (dX12_sheet_135) rfl rfl (by omega) (Nat.le_of_ble_eq_true rfl) (cX12_worthOf_ok (by omega) (fX12_all M_120) M_120 h) (fun r7 N q => ?_)
          obtain ⟨rfl, h⟩ := q
          refine g_ireturn hC hr (dX12_sheet_138) ?_
          exact wpO_s h
        · have h := wpO_t c122 h
          refine g_bipush (v := (-3)) hC (dX12_sheet_125) kb_m3 ?_
          refine g_goto (tgt := 138) hC (dX12_sheet_127) (by decide) ?_
          refine g_ireturn hC hr (dX12_sheet_138) ?_
          exact wpO_s h
      refine g_icmp_ge (tgt := 34) hC (dX12_sheet_24) (by decide) (fun c24 => ?_) (fun c24 => ?_)
      · have h := wpO_t c24 h
        exact hJ2 () h
      · have h := wpO_f c24 h
        refine g_iload_n (i := 2) (x := x2) hC (dX12_sheet_27) rfl rfl ?_
        refine g_if_ge (tgt := 34) hC (dX12_sheet_28) (by decide) (fun c28 => ?_) (fun c28 => ?_)
        · have h := wpO_t c28 h
          exact hJ2 () h
        · have h := wpO_f c28 h
          refine g_bipush (v := (-2)) hC (dX12_sheet_31) kb_m2 ?_
          refine g_ireturn hC hr (dX12_sheet_33) ?_
          exact wpO_s h
    · have h := wpO_f c17 h
      refine g_iconst (v := (-1)) hC (dX12_sheet_20) kc_m1 ?_
      refine g_ireturn hC hr (dX12_sheet_21) ?_
      exact wpO_s h
/-! LostByStateModel.lay([I[II)V -/
theorem dX12_lay_0 : decode cX12_lay 0 = .ok (.iconst 0, 1) := by decide +kernel
theorem dX12_lay_1 : decode cX12_lay 1 = .ok (.istore_n 3, 1) := by decide +kernel
theorem dX12_lay_2 : decode cX12_lay 2 = .ok (.iload_n 3, 1) := by decide +kernel
theorem dX12_lay_3 : decode cX12_lay 3 = .ok (.bipush 26, 2) := by decide +kernel
theorem dX12_lay_5 : decode cX12_lay 5 = .ok (.if_icmp .ge 17, 3) := by decide +kernel
theorem dX12_lay_8 : decode cX12_lay 8 = .ok (.aload_n 1, 1) := by decide +kernel
theorem dX12_lay_9 : decode cX12_lay 9 = .ok (.iload_n 2, 1) := by decide +kernel
theorem dX12_lay_10 : decode cX12_lay 10 = .ok (.iload_n 3, 1) := by decide +kernel
theorem dX12_lay_11 : decode cX12_lay 11 = .ok (.iadd, 1) := by decide +kernel
theorem dX12_lay_12 : decode cX12_lay 12 = .ok (.aload_n 0, 1) := by decide +kernel
theorem dX12_lay_13 : decode cX12_lay 13 = .ok (.iload_n 3, 1) := by decide +kernel
theorem dX12_lay_14 : decode cX12_lay 14 = .ok (.iaload, 1) := by decide +kernel
theorem dX12_lay_15 : decode cX12_lay 15 = .ok (.iastore, 1) := by decide +kernel
theorem dX12_lay_16 : decode cX12_lay 16 = .ok (.iinc 3 1, 3) := by decide +kernel
theorem dX12_lay_19 : decode cX12_lay 19 = .ok (.goto (-17), 3) := by decide +kernel
theorem dX12_lay_22 : decode cX12_lay 22 = .ok (.return_, 1) := by decide +kernel
def fX12_lay_L2 (x0 : Nat) (x1 : Nat) (x2 : Int32) : Nat → Int32 → zM → Option zM
  | 0, _, _ => none
  | n + 1, x3, M => if 26 ≤ x3 then (
    some M)
    else (
    if zSH x0 = .inr (0, zLen x0) then (
    if zin x3 (zLen x0) then (
    if zSH x1 = .inr (0, zLen x1) then (
    if zin (x2 + x3) (zLen x1) then (
    zlet (zSI M x1 (x2 + x3).toNatClampNeg (M.1 x0 x3.toNatClampNeg)) fun (M15 : zM) =>
    fX12_lay_L2 x0 x1 x2 n (x3 + 1) M15) else none) else none) else none) else none)
def fX12_lay (x0 : Nat) (x1 : Nat) (x2 : Int32) (M : zM) : Option zM := (fX12_lay_L2 x0 x1 x2 4000 0 M).bind fun (M_22 : zM) =>
  some M_22
set_option maxHeartbeats 4000000 in
theorem lX12_lay_2 {E : zE} {Γ : zT} {d : Nat} {K1 : zM → Prop} (hC : Cx E Γ RX12 cX12_lay 4 d) (hd : 0 ≤ d) (x0 : Nat) (x1 : Nat) (x2 : Int32) (hx : ∀ (M_22 : zM), K1 M_22 → G E Γ 4 22 [] [] M_22) :
    ∀ (n : Nat) (x3 : Int32) (M : zM), wpO (fX12_lay_L2 x0 x1 x2 n x3 M) K1 → G E Γ 4 2 [(0, .ref x0), (1, .ref x1), (2, .int x2), (3, .int x3)] [] M := by
  intro n
  induction n with
  | zero =>
    intro x3 M h
    exact (wpO_0 h).elim
  | succ n ih =>
    intro x3 M h
    rw [fX12_lay_L2.eq_2] at h
    refine g_iload_n (i := 3) (x := x3) hC (dX12_lay_2) rfl rfl ?_
    refine g_bipush (v := 26) hC (dX12_lay_3) kb_26 ?_
    refine g_icmp_ge (tgt := 22) hC (dX12_lay_5) (by decide) (fun c5 => ?_) (fun c5 => ?_)
    · have h := wpO_t c5 h
      refine g_sub (lv' := []) [] rfl ?_
      exact hx _ (wpO_s h)
    · have h := wpO_f c5 h
      refine g_aload_n (i := 1) (x := x1) hC (dX12_lay_8) rfl rfl ?_
      refine g_iload_n (i := 2) (x := x2) hC (dX12_lay_9) rfl rfl ?_
      refine g_iload_n (i := 3) (x := x3) hC (dX12_lay_10) rfl rfl ?_
      refine g_iadd hC (dX12_lay_11) ?_
      refine g_aload_n (i := 0) (x := x0) hC (dX12_lay_12) rfl rfl ?_
      refine g_iload_n (i := 3) (x := x3) hC (dX12_lay_13) rfl rfl ?_
      obtain ⟨q1, h⟩ := wpO_g h
      obtain ⟨q2, h⟩ := wpO_g h
      refine g_iaload (n := (zLen x0)) hC (dX12_lay_14) q1 q2 ?_
      obtain ⟨q3, h⟩ := wpO_g h
      obtain ⟨q4, h⟩ := wpO_g h
      refine g_iastore (n := (zLen x1)) hC (dX12_lay_15) q3 q4 ?_
      refine g_nmM (fun M15 e_M15 => ?_)
      have h := wpO_n e_M15 h
      refine g_iinc (x := x3) (v := (x3 + 1)) (lv2 := [(3, .int (x3 + 1)), (0, .ref x0), (1, .ref x1), (2, .int x2)]) hC (dX12_lay_16) rfl rfl (by decide) rfl ?_
      refine g_goto (tgt := 2) hC (dX12_lay_19) (by decide) ?_
      refine g_sub (lv' := [(0, .ref x0), (1, .ref x1), (2, .int x2), (3, .int (x3 + 1))]) [1, 2, 3, 0] rfl ?_
      exact ih _ _ h
set_option maxHeartbeats 4000000 in
theorem cX12_lay_ok {E : zE} {d : Nat} (hd : 0 ≤ d) (x0 : Nat) (x1 : Nat) (x2 : Int32) (M : zM) {K : zM → Prop} (h : wpO (fX12_lay x0 x1 x2 M) K) : CMv E d yX12_lay cX12_lay 4 (none) [.ref x0, .ref x1, .int x2] M K := by
  refine CMv.of (by decide) (Nat.le_of_ble_eq_true rfl) (fun Γ hC hr => ?_)
  have hC : Cx E Γ RX12 cX12_lay 4 d := hC
  show G E Γ 4 0 [(0, .ref x0), (1, .ref x1), (2, .int x2)] [] M
  unfold fX12_lay at h
  refine g_iconst (v := 0) hC (dX12_lay_0) kc_0 ?_
  refine g_istore_n (i := 3) (lv2 := [(3, .int 0), (0, .ref x0), (1, .ref x1), (2, .int x2)]) hC (dX12_lay_1) rfl (by decide) rfl ?_
  refine g_sub (lv' := [(0, .ref x0), (1, .ref x1), (2, .int x2), (3, .int 0)]) [1, 2, 3, 0] rfl ?_
  refine wpO_bJ h (fun KL2 hKL2 h => ?_)
  refine lX12_lay_2 (K1 := KL2) hC (by omega) x0 x1 x2 (fun M_22 h => ?_) _ _ _ h
  have h := hKL2 _ h
  refine g_vreturn hC hr (dX12_lay_22) ?_
  exact wpO_s h
