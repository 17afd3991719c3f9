/-! LostByStateModel.alike()I -/
theorem dX12_alike_0 : decode cX12_alike 0 = .ok (.aload_n 0, 1) := by decide +kernel
theorem dX12_alike_1 : decode cX12_alike 1 = .ok (.iconst 0, 1) := by decide +kernel
theorem dX12_alike_2 : decode cX12_alike 2 = .ok (.putfield 86, 3) := by decide +kernel
theorem dX12_alike_5 : decode cX12_alike 5 = .ok (.ldc_w 318, 3) := by decide +kernel
theorem dX12_alike_8 : decode cX12_alike 8 = .ok (.istore_n 1, 1) := by decide +kernel
theorem dX12_alike_9 : decode cX12_alike 9 = .ok (.iconst (-1), 1) := by decide +kernel
theorem dX12_alike_10 : decode cX12_alike 10 = .ok (.istore_n 2, 1) := by decide +kernel
theorem dX12_alike_11 : decode cX12_alike 11 = .ok (.iconst (-1), 1) := by decide +kernel
theorem dX12_alike_12 : decode cX12_alike 12 = .ok (.istore_n 3, 1) := by decide +kernel
theorem dX12_alike_13 : decode cX12_alike 13 = .ok (.iconst 0, 1) := by decide +kernel
theorem dX12_alike_14 : decode cX12_alike 14 = .ok (.istore 4, 2) := by decide +kernel
theorem dX12_alike_16 : decode cX12_alike 16 = .ok (.iload 4, 2) := by decide +kernel
theorem dX12_alike_18 : decode cX12_alike 18 = .ok (.aload_n 0, 1) := by decide +kernel
theorem dX12_alike_19 : decode cX12_alike 19 = .ok (.getfield 92, 3) := by decide +kernel
theorem dX12_alike_22 : decode cX12_alike 22 = .ok (.if_icmp .ge 68, 3) := by decide +kernel
theorem dX12_alike_25 : decode cX12_alike 25 = .ok (.iload 4, 2) := by decide +kernel
theorem dX12_alike_27 : decode cX12_alike 27 = .ok (.iconst 1, 1) := by decide +kernel
theorem dX12_alike_28 : decode cX12_alike 28 = .ok (.iadd, 1) := by decide +kernel
theorem dX12_alike_29 : decode cX12_alike 29 = .ok (.istore 5, 2) := by decide +kernel
theorem dX12_alike_31 : decode cX12_alike 31 = .ok (.iload 5, 2) := by decide +kernel
theorem dX12_alike_33 : decode cX12_alike 33 = .ok (.aload_n 0, 1) := by decide +kernel
theorem dX12_alike_34 : decode cX12_alike 34 = .ok (.getfield 92, 3) := by decide +kernel
theorem dX12_alike_37 : decode cX12_alike 37 = .ok (.if_icmp .ge 47, 3) := by decide +kernel
theorem dX12_alike_40 : decode cX12_alike 40 = .ok (.aload_n 0, 1) := by decide +kernel
theorem dX12_alike_41 : decode cX12_alike 41 = .ok (.getfield 20, 3) := by decide +kernel
theorem dX12_alike_44 : decode cX12_alike 44 = .ok (.iload 4, 2) := by decide +kernel
theorem dX12_alike_46 : decode cX12_alike 46 = .ok (.iaload, 1) := by decide +kernel
theorem dX12_alike_47 : decode cX12_alike 47 = .ok (.aload_n 0, 1) := by decide +kernel
theorem dX12_alike_48 : decode cX12_alike 48 = .ok (.getfield 20, 3) := by decide +kernel
theorem dX12_alike_51 : decode cX12_alike 51 = .ok (.iload 5, 2) := by decide +kernel
theorem dX12_alike_53 : decode cX12_alike 53 = .ok (.iaload, 1) := by decide +kernel
theorem dX12_alike_54 : decode cX12_alike 54 = .ok (.ixor, 1) := by decide +kernel
theorem dX12_alike_55 : decode cX12_alike 55 = .ok (.invokestatic 196, 3) := by decide +kernel
theorem dX12_alike_58 : decode cX12_alike 58 = .ok (.istore 6, 2) := by decide +kernel
theorem dX12_alike_60 : decode cX12_alike 60 = .ok (.iload 6, 2) := by decide +kernel
theorem dX12_alike_62 : decode cX12_alike 62 = .ok (.iload_n 1, 1) := by decide +kernel
theorem dX12_alike_63 : decode cX12_alike 63 = .ok (.if_icmp .lt 6, 3) := by decide +kernel
theorem dX12_alike_66 : decode cX12_alike 66 = .ok (.goto 12, 3) := by decide +kernel
theorem dX12_alike_69 : decode cX12_alike 69 = .ok (.iload 6, 2) := by decide +kernel
theorem dX12_alike_71 : decode cX12_alike 71 = .ok (.istore_n 1, 1) := by decide +kernel
theorem dX12_alike_72 : decode cX12_alike 72 = .ok (.iload 4, 2) := by decide +kernel
theorem dX12_alike_74 : decode cX12_alike 74 = .ok (.istore_n 2, 1) := by decide +kernel
theorem dX12_alike_75 : decode cX12_alike 75 = .ok (.iload 5, 2) := by decide +kernel
theorem dX12_alike_77 : decode cX12_alike 77 = .ok (.istore_n 3, 1) := by decide +kernel
theorem dX12_alike_78 : decode cX12_alike 78 = .ok (.iinc 5 1, 3) := by decide +kernel
theorem dX12_alike_81 : decode cX12_alike 81 = .ok (.goto (-50), 3) := by decide +kernel
theorem dX12_alike_84 : decode cX12_alike 84 = .ok (.iinc 4 1, 3) := by decide +kernel
theorem dX12_alike_87 : decode cX12_alike 87 = .ok (.goto (-71), 3) := by decide +kernel
theorem dX12_alike_90 : decode cX12_alike 90 = .ok (.iload_n 1, 1) := by decide +kernel
theorem dX12_alike_91 : decode cX12_alike 91 = .ok (.ldc_w 318, 3) := by decide +kernel
theorem dX12_alike_94 : decode cX12_alike 94 = .ok (.if_icmp .ne 6, 3) := by decide +kernel
theorem dX12_alike_97 : decode cX12_alike 97 = .ok (.bipush (-2), 2) := by decide +kernel
theorem dX12_alike_99 : decode cX12_alike 99 = .ok (.ireturn, 1) := by decide +kernel
theorem dX12_alike_100 : decode cX12_alike 100 = .ok (.aload_n 0, 1) := by decide +kernel
theorem dX12_alike_101 : decode cX12_alike 101 = .ok (.iconst 0, 1) := by decide +kernel
theorem dX12_alike_102 : decode cX12_alike 102 = .ok (.putfield 89, 3) := by decide +kernel
theorem dX12_alike_105 : decode cX12_alike 105 = .ok (.aload_n 0, 1) := by decide +kernel
theorem dX12_alike_106 : decode cX12_alike 106 = .ok (.iload_n 2, 1) := by decide +kernel
theorem dX12_alike_107 : decode cX12_alike 107 = .ok (.i2l, 1) := by decide +kernel
theorem dX12_alike_108 : decode cX12_alike 108 = .ok (.invokevirtual 280, 3) := by decide +kernel
theorem dX12_alike_111 : decode cX12_alike 111 = .ok (.aload_n 0, 1) := by decide +kernel
theorem dX12_alike_112 : decode cX12_alike 112 = .ok (.iload_n 3, 1) := by decide +kernel
theorem dX12_alike_113 : decode cX12_alike 113 = .ok (.i2l, 1) := by decide +kernel
theorem dX12_alike_114 : decode cX12_alike 114 = .ok (.invokevirtual 280, 3) := by decide +kernel
theorem dX12_alike_117 : decode cX12_alike 117 = .ok (.aload_n 0, 1) := by decide +kernel
theorem dX12_alike_118 : decode cX12_alike 118 = .ok (.aload_n 0, 1) := by decide +kernel
theorem dX12_alike_119 : decode cX12_alike 119 = .ok (.getfield 20, 3) := by decide +kernel
theorem dX12_alike_122 : decode cX12_alike 122 = .ok (.iload_n 2, 1) := by decide +kernel
theorem dX12_alike_123 : decode cX12_alike 123 = .ok (.iaload, 1) := by decide +kernel
theorem dX12_alike_124 : decode cX12_alike 124 = .ok (.aload_n 0, 1) := by decide +kernel
theorem dX12_alike_125 : decode cX12_alike 125 = .ok (.getfield 20, 3) := by decide +kernel
theorem dX12_alike_128 : decode cX12_alike 128 = .ok (.iload_n 3, 1) := by decide +kernel
theorem dX12_alike_129 : decode cX12_alike 129 = .ok (.iaload, 1) := by decide +kernel
theorem dX12_alike_130 : decode cX12_alike 130 = .ok (.iand, 1) := by decide +kernel
theorem dX12_alike_131 : decode cX12_alike 131 = .ok (.i2l, 1) := by decide +kernel
theorem dX12_alike_132 : decode cX12_alike 132 = .ok (.invokevirtual 280, 3) := by decide +kernel
theorem dX12_alike_135 : decode cX12_alike 135 = .ok (.iload_n 1, 1) := by decide +kernel
theorem dX12_alike_136 : decode cX12_alike 136 = .ok (.ireturn, 1) := by decide +kernel
def fX12_alike_L31 (x4 : Int32) (M : zM) : Nat → Int32 → Int32 → Int32 → Int32 → Option (Int32 × Int32 × Int32)
  | 0, _, _, _, _ => none
  | n + 1, x1, x2, x3, x5 => if (M.1 36 1) ≤ x5 then (
    some (x1, x2, x3))
    else (
    if zin x4 8 then (
    if zin x5 8 then (
    zlet (fJ6_bitCount_0f7a4 ((M.1 38 x4.toNatClampNeg) ^^^ (M.1 38 x5.toNatClampNeg))) fun (x6_58 : Int32) =>
    zlet (if x6_58 < x1 then (
    x6_58)
    else (
    x1)) fun (x1_78 : Int32) =>
    zlet (if x6_58 < x1 then (
    x4)
    else (
    x2)) fun (x2_78 : Int32) =>
    zlet (if x6_58 < x1 then (
    x5)
    else (
    x3)) fun (x3_78 : Int32) =>
    fX12_alike_L31 x4 M n x1_78 x2_78 x3_78 (x5 + 1)) else none) else none)
def fX12_alike_L16 (M : zM) : Nat → Int32 → Int32 → Int32 → Int32 → Option (Int32 × Int32 × Int32)
  | 0, _, _, _, _ => none
  | n + 1, x1, x2, x3, x4 => if (M.1 36 1) ≤ x4 then (
    some (x1, x2, x3))
    else (
    zlet (x4 + 1) fun (x5_29 : Int32) =>
    (fX12_alike_L31 x4 M 4000 x1 x2 x3 x5_29).bind fun (q : Int32 × Int32 × Int32) => zp q fun x1_84 q => zp q fun x2_84 x3_84 =>
    fX12_alike_L16 M n x1_84 x2_84 x3_84 (x4 + 1))
def fX12_alike  (M : zM) : Option (Int32 × zM) := zlet (zSI M 36 12 0) fun (M2 : zM) =>
  (fX12_alike_L16 M2 4000 1000000 (-1) (-1) 0).bind fun (q : Int32 × Int32 × Int32) => zp q fun x1_90 q => zp q fun x2_90 x3_90 =>
  if x1_90 = 1000000 then (
  some ((-2), M2))
  else (
  zlet (zSI M2 36 11 0) fun (M102 : zM) =>
  (fX12_tell x2_90.toInt64 M102).bind fun (M108 : zM) =>
  (fX12_tell x3_90.toInt64 M108).bind fun (M114 : zM) =>
  if zin x2_90 8 then (
  if zin x3_90 8 then (
  (fX12_tell (((M114.1 38 x2_90.toNatClampNeg) &&& (M114.1 38 x3_90.toNatClampNeg)).toInt64) M114).bind fun (M132 : zM) =>
  some (x1_90, M132)) else none) else none)
set_option maxHeartbeats 4000000 in
theorem lX12_alike_31 {E : zE} {Γ : zT} {d : Nat} {K1 : (Int32 × Int32 × Int32) → Prop} (hC : Cx E Γ RX12 cX12_alike 7 d) (hd : 1 ≤ d) (x4 : Int32) (M : zM) (hx : ∀ (x1_84 : Int32) (x2_84 : Int32) (x3_84 : Int32), K1 (x1_84, x2_84, x3_84) → G E Γ 7 84 [(0, .ref 36), (1, .int x1_84), (2, .int x2_84), (3, .int x3_84), (4, .int x4)] [] M) :
    ∀ (n : Nat) (x1 : Int32) (x2 : Int32) (x3 : Int32) (x5 : Int32), wpO (fX12_alike_L31 x4 M n x1 x2 x3 x5) K1 → G E Γ 7 31 [(0, .ref 36), (1, .int x1), (2, .int x2), (3, .int x3), (4, .int x4), (5, .int x5)] [] M := by
  intro n
  induction n with
  | zero =>
    intro x1 x2 x3 x5 h
    exact (wpO_0 h).elim
  | succ n ih =>
    intro x1 x2 x3 x5 h
    rw [fX12_alike_L31.eq_2] at h
    refine g_iload (i := 5) (x := x5) hC (dX12_alike_31) rfl ?_
    refine g_aload_n (i := 0) (x := 36) hC (dX12_alike_33) rfl rfl ?_
    refine g_getI hC flX12_92 (dX12_alike_34) rfl rfl ?_
    refine g_icmp_ge (tgt := 84) hC (dX12_alike_37) (by decide) (fun c37 => ?_) (fun c37 => ?_)
    · have h := wpO_t c37 h
      refine g_sub (lv' := [(0, .ref 36), (1, .int x1), (2, .int x2), (3, .int x3), (4, .int x4)]) [0, 1, 2, 3, 4] rfl ?_
      exact hx _ _ _ (wpO_s h)
    · have h := wpO_f c37 h
      refine g_aload_n (i := 0) (x := 36) hC (dX12_alike_40) rfl rfl ?_
      refine g_getR (r := 38) hC flX12_20 (dX12_alike_41) rfl rfl rfl ?_
      refine g_iload (i := 4) (x := x4) hC (dX12_alike_44) rfl ?_
      obtain ⟨q1, h⟩ := wpO_g h
      refine g_iaload (n := 8) hC (dX12_alike_46) rfl q1 ?_
      refine g_aload_n (i := 0) (x := 36) hC (dX12_alike_47) rfl rfl ?_
      refine g_getR (r := 38) hC flX12_20 (dX12_alike_48) rfl rfl rfl ?_
      refine g_iload (i := 5) (x := x5) hC (dX12_alike_51) rfl ?_
      obtain ⟨q2, h⟩ := wpO_g h
      refine g_iaload (n := 8) hC (dX12_alike_53) rfl q2 ?_
      refine g_ixor hC (dX12_alike_54) ?_
      refine g_callSi ([.int ((M.1 38 x4.toNatClampNeg) ^^^ (M.1 38 x5.toNatClampNeg))]) hC wsX12_196 (dX12_alike_55) rfl (by omega) (Nat.le_of_ble_eq_true rfl) (cJ6_bitCount_0f7a4_ok (by omega) ((M.1 38 x4.toNatClampNeg) ^^^ (M.1 38 x5.toNatClampNeg)) M (K := fun r => r = fJ6_bitCount_0f7a4 ((M.1 38 x4.toNatClampNeg) ^^^ (M.1 38 x5.toNatClampNeg))) rfl) (fun r N q => ?_)
      obtain ⟨rfl, rfl⟩ := q
      refine g_nmi (fun x6_58 e_x6_58 => ?_)
      have h := wpO_n e_x6_58 h
      refine g_istore (i := 6) (lv2 := [(6, .int x6_58), (0, .ref 36), (1, .int x1), (2, .int x2), (3, .int x3), (4, .int x4), (5, .int x5)]) hC (dX12_alike_58) (by decide) rfl ?_
      refine g_iload (i := 6) (x := x6_58) hC (dX12_alike_60) rfl ?_
      refine g_iload_n (i := 1) (x := x1) hC (dX12_alike_62) rfl rfl ?_
      obtain ⟨x1_78, e_x1_78, h⟩ := wpO_l h
      obtain ⟨x2_78, e_x2_78, h⟩ := wpO_l h
      obtain ⟨x3_78, e_x3_78, h⟩ := wpO_l h
      have hJ4 : G E Γ 7 78 [(0, .ref 36), (1, .int x1_78), (2, .int x2_78), (3, .int x3_78), (4, .int x4), (5, .int x5)] [] M := by
        refine g_iinc (x := x5) (v := (x5 + 1)) (lv2 := [(5, .int (x5 + 1)), (0, .ref 36), (1, .int x1_78), (2, .int x2_78), (3, .int x3_78), (4, .int x4)]) hC (dX12_alike_78) rfl rfl (by decide) rfl ?_
        refine g_goto (tgt := 31) hC (dX12_alike_81) (by decide) ?_
        refine g_sub (lv' := [(0, .ref 36), (1, .int x1_78), (2, .int x2_78), (3, .int x3_78), (4, .int x4), (5, .int (x5 + 1))]) [1, 2, 3, 4, 5, 0] rfl ?_
        exact ih _ _ _ _ h
      refine g_icmp_lt (tgt := 69) hC (dX12_alike_63) (by decide) (fun c63 => ?_) (fun c63 => ?_)
      · rw [if_pos c63] at e_x1_78 e_x2_78 e_x3_78
        refine g_iload (i := 6) (x := x6_58) hC (dX12_alike_69) rfl ?_
        refine g_istore_n (i := 1) (lv2 := [(1, .int x6_58), (6, .int x6_58), (0, .ref 36), (2, .int x2), (3, .int x3), (4, .int x4), (5, .int x5)]) hC (dX12_alike_71) rfl (by decide) rfl ?_
        refine g_iload (i := 4) (x := x4) hC (dX12_alike_72) rfl ?_
        refine g_istore_n (i := 2) (lv2 := [(2, .int x4), (1, .int x6_58), (6, .int x6_58), (0, .ref 36), (3, .int x3), (4, .int x4), (5, .int x5)]) hC (dX12_alike_74) rfl (by decide) rfl ?_
        refine g_iload (i := 5) (x := x5) hC (dX12_alike_75) rfl ?_
        refine g_istore_n (i := 3) (lv2 := [(3, .int x5), (2, .int x4), (1, .int x6_58), (6, .int x6_58), (0, .ref 36), (4, .int x4), (5, .int x5)]) hC (dX12_alike_77) rfl (by decide) rfl ?_
        refine g_sub (lv' := [(0, .ref 36), (1, .int x6_58), (2, .int x4), (3, .int x5), (4, .int x4), (5, .int x5)]) [4, 2, 1, 0, 5, 6] rfl ?_
        subst e_x1_78
        subst e_x2_78
        subst e_x3_78
        exact hJ4
      · rw [if_neg c63] at e_x1_78 e_x2_78 e_x3_78
        refine g_goto (tgt := 78) hC (dX12_alike_66) (by decide) ?_
        refine g_sub (lv' := [(0, .ref 36), (1, .int x1), (2, .int x2), (3, .int x3), (4, .int x4), (5, .int x5)]) [1, 2, 3, 4, 5, 6] rfl ?_
        subst e_x1_78
        subst e_x2_78
        subst e_x3_78
        exact hJ4
set_option maxHeartbeats 4000000 in
theorem lX12_alike_16 {E : zE} {Γ : zT} {d : Nat} {K1 : (Int32 × Int32 × Int32) → Prop} (hC : Cx E Γ RX12 cX12_alike 7 d) (hd : 1 ≤ d) (M : zM) (hx : ∀ (x1_90 : Int32) (x2_90 : Int32) (x3_90 : Int32), K1 (x1_90, x2_90, x3_90) → G E Γ 7 90 [(0, .ref 36), (1, .int x1_90), (2, .int x2_90), (3, .int x3_90)] [] M) :
    ∀ (n : Nat) (x1 : Int32) (x2 : Int32) (x3 : Int32) (x4 : Int32), wpO (fX12_alike_L16 M n x1 x2 x3 x4) K1 → G E Γ 7 16 [(0, .ref 36), (1, .int x1), (2, .int x2), (3, .int x3), (4, .int x4)] [] M := by
  intro n
  induction n with
  | zero =>
    intro x1 x2 x3 x4 h
    exact (wpO_0 h).elim
  | succ n ih =>
    intro x1 x2 x3 x4 h
    rw [fX12_alike_L16.eq_2] at h
    refine g_iload (i := 4) (x := x4) hC (dX12_alike_16) rfl ?_
    refine g_aload_n (i := 0) (x := 36) hC (dX12_alike_18) rfl rfl ?_
    refine g_getI hC flX12_92 (dX12_alike_19) rfl rfl ?_
    refine g_icmp_ge (tgt := 90) hC (dX12_alike_22) (by decide) (fun c22 => ?_) (fun c22 => ?_)
    · have h := wpO_t c22 h
      refine g_sub (lv' := [(0, .ref 36), (1, .int x1), (2, .int x2), (3, .int x3)]) [0, 1, 2, 3] rfl ?_
      exact hx _ _ _ (wpO_s h)
    · have h := wpO_f c22 h
      refine g_iload (i := 4) (x := x4) hC (dX12_alike_25) rfl ?_
      refine g_iconst (v := 1) hC (dX12_alike_27) kc_1 ?_
      refine g_iadd hC (dX12_alike_28) ?_
      refine g_nmi (fun x5_29 e_x5_29 => ?_)
      have h := wpO_n e_x5_29 h
      refine g_istore (i := 5) (lv2 := [(5, .int x5_29), (0, .ref 36), (1, .int x1), (2, .int x2), (3, .int x3), (4, .int x4)]) hC (dX12_alike_29) (by decide) rfl ?_
      refine g_sub (lv' := [(0, .ref 36), (1, .int x1), (2, .int x2), (3, .int x3), (4, .int x4), (5, .int x5_29)]) [1, 2, 3, 4, 5, 0] rfl ?_
      refine wpO_bJ h (fun KL31 hKL31 h => ?_)
      refine lX12_alike_31 (K1 := KL31) hC (by omega) x4 M (fun x1_84 x2_84 x3_84 h => ?_) _ _ _ _ _ h
      have h := hKL31 _ h
      have h := wpO_p h
      have h := wpO_p h
      refine g_iinc (x := x4) (v := (x4 + 1)) (lv2 := [(4, .int (x4 + 1)), (0, .ref 36), (1, .int x1_84), (2, .int x2_84), (3, .int x3_84)]) hC (dX12_alike_84) rfl rfl (by decide) rfl ?_
      refine g_goto (tgt := 16) hC (dX12_alike_87) (by decide) ?_
      refine g_sub (lv' := [(0, .ref 36), (1, .int x1_84), (2, .int x2_84), (3, .int x3_84), (4, .int (x4 + 1))]) [1, 2, 3, 4, 0] rfl ?_
      exact ih _ _ _ _ h
set_option maxHeartbeats 4000000 in
theorem cX12_alike_ok {E : zE} {d : Nat} (hd : 1 ≤ d)  (M : zM) {K : (Int32 × zM) → Prop} (h : wpO (fX12_alike  M) K) : CMi E d yX12_alike cX12_alike 7 (some .int) [.ref 36] M (fun r N => K (r, N)) := by
  refine CMi.of (by decide) (Nat.le_of_ble_eq_true rfl) (fun Γ hC hr => ?_)
  have hC : Cx E Γ RX12 cX12_alike 7 d := hC
  show G E Γ 7 0 [(0, .ref 36)] [] M
  unfold fX12_alike at h
  refine g_aload_n (i := 0) (x := 36) hC (dX12_alike_0) rfl rfl ?_
  refine g_iconst (v := 0) hC (dX12_alike_1) kc_0 ?_
  refine g_putI hC fpX12_86 (dX12_alike_2) rfl rfl rfl rfl ?_
  refine g_nmM (fun M2 e_M2 => ?_)
  have h := wpO_n e_M2 h
  refine g_ldc_w (v := 1000000) hC m_1550 (dX12_alike_5) ?_
  refine g_istore_n (i := 1) (lv2 := [(1, .int 1000000), (0, .ref 36)]) hC (dX12_alike_8) rfl (by decide) rfl ?_
  refine g_iconst (v := (-1)) hC (dX12_alike_9) kc_m1 ?_
  refine g_istore_n (i := 2) (lv2 := [(2, .int (-1)), (1, .int 1000000), (0, .ref 36)]) hC (dX12_alike_10) rfl (by decide) rfl ?_
  refine g_iconst (v := (-1)) hC (dX12_alike_11) kc_m1 ?_
  refine g_istore_n (i := 3) (lv2 := [(3, .int (-1)), (2, .int (-1)), (1, .int 1000000), (0, .ref 36)]) hC (dX12_alike_12) rfl (by decide) rfl ?_
  refine g_iconst (v := 0) hC (dX12_alike_13) kc_0 ?_
  refine g_istore (i := 4) (lv2 := [(4, .int 0), (3, .int (-1)), (2, .int (-1)), (1, .int 1000000), (0, .ref 36)]) hC (dX12_alike_14) (by decide) rfl ?_
  refine g_sub (lv' := [(0, .ref 36), (1, .int 1000000), (2, .int (-1)), (3, .int (-1)), (4, .int 0)]) [4, 3, 2, 1, 0] rfl ?_
  refine wpO_bJ h (fun KL16 hKL16 h => ?_)
  refine lX12_alike_16 (K1 := KL16) hC (by omega) M2 (fun x1_90 x2_90 x3_90 h => ?_) _ _ _ _ _ h
  have h := hKL16 _ h
  have h := wpO_p h
  have h := wpO_p h
  refine g_iload_n (i := 1) (x := x1_90) hC (dX12_alike_90) rfl rfl ?_
  refine g_ldc_w (v := 1000000) hC m_1550 (dX12_alike_91) ?_
  refine g_icmp_ne (tgt := 100) hC (dX12_alike_94) (by decide) (fun c94 => ?_) (fun c94 => ?_)
  · have h := wpO_f c94 h
    refine g_aload_n (i := 0) (x := 36) hC (dX12_alike_100) rfl rfl ?_
    refine g_iconst (v := 0) hC (dX12_alike_101) kc_0 ?_
    refine g_putI hC fpX12_89 (dX12_alike_102) rfl rfl rfl rfl ?_
    refine g_nmM (fun M102 e_M102 => ?_)
    have h := wpO_n e_M102 h
    refine g_aload_n (i := 0) (x := 36) hC (dX12_alike_105) rfl rfl ?_
    refine g_iload_n (i := 2) (x := x2_90) hC (dX12_alike_106) rfl rfl ?_
    refine g_i2l hC (dX12_alike_107) ?_
    have h := wpO_b h
    refine g_callVv ([.long x2_90.toInt64]) hC wvX12_280 (dX12_alike_108) rfl rfl (by omega) (Nat.le_of_ble_eq_true rfl) (cX12_tell_ok (by omega) x2_90.toInt64 M102 h) (fun M108 h => ?_)
    refine g_aload_n (i := 0) (x := 36) hC (dX12_alike_111) rfl rfl ?_
    refine g_iload_n (i := 3) (x := x3_90) hC (dX12_alike_112) rfl rfl ?_
    refine g_i2l hC (dX12_alike_113) ?_
    have h := wpO_b h
    refine g_callVv ([.long x3_90.toInt64]) hC wvX12_280 (dX12_alike_114) rfl rfl (by omega) (Nat.le_of_ble_eq_true rfl) (cX12_tell_ok (by omega) x3_90.toInt64 M108 h) (fun M114 h => ?_)
    refine g_aload_n (i := 0) (x := 36) hC (dX12_alike_117) rfl rfl ?_
    refine g_aload_n (i := 0) (x := 36) hC (dX12_alike_118) rfl rfl ?_
    refine g_getR (r := 38) hC flX12_20 (dX12_alike_119) rfl rfl rfl ?_
    refine g_iload_n (i := 2) (x := x2_90) hC (dX12_alike_122) rfl rfl ?_
    obtain ⟨q7, h⟩ := wpO_g h
    refine g_iaload (n := 8) hC (dX12_alike_123) rfl q7 ?_
    refine g_aload_n (i := 0) (x := 36) hC (dX12_alike_124) rfl rfl ?_
    refine g_getR (r := 38) hC flX12_20 (dX12_alike_125) rfl rfl rfl ?_
    refine g_iload_n (i := 3) (x := x3_90) hC (dX12_alike_128) rfl rfl ?_
    obtain ⟨q8, h⟩ := wpO_g h
    refine g_iaload (n := 8) hC (dX12_alike_129) rfl q8 ?_
    refine g_iand hC (dX12_alike_130) ?_
    refine g_i2l hC (dX12_alike_131) ?_
    have h := wpO_b h
    refine g_callVv ([.long (((M114.1 38 x2_90.toNatClampNeg) &&& (M114.1 38 x3_90.toNatClampNeg)).toInt64)]) hC wvX12_280 (dX12_alike_132) rfl rfl (by omega) (Nat.le_of_ble_eq_true rfl) (cX12_tell_ok (by omega) (((M114.1 38 x2_90.toNatClampNeg) &&& (M114.1 38 x3_90.toNatClampNeg)).toInt64) M114 h) (fun M132 h => ?_)
    refine g_iload_n (i := 1) (x := x1_90) hC (dX12_alike_135) rfl rfl ?_
    refine g_ireturn hC hr (dX12_alike_136) ?_
    exact wpO_s h
  · have h := wpO_t c94 h
    refine g_bipush (v := (-2)) hC (dX12_alike_97) kb_m2 ?_
    refine g_ireturn hC hr (dX12_alike_99) ?_
    exact wpO_s h
/-! LostByStateModel.common(JJ)J -/
theorem dX12_common_0 : decode cX12_common 0 = .ok (.lload_n 2, 1) := by decide +kernel
theorem dX12_common_1 : decode cX12_common 1 = .ok (.lconst 0, 1) := by decide +kernel
theorem dX12_common_2 : decode cX12_common 2 = .ok (.lcmp, 1) := by decide +kernel
theorem dX12_common_3 : decode cX12_common 3 = .ok (.ifCond .ne 7, 3) := by decide +kernel
theorem dX12_common_6 : decode cX12_common 6 = .ok (.lload_n 0, 1) := by decide +kernel
theorem dX12_common_7 : decode cX12_common 7 = .ok (.goto 10, 3) := by decide +kernel
theorem dX12_common_10 : decode cX12_common 10 = .ok (.lload_n 2, 1) := by decide +kernel
theorem dX12_common_11 : decode cX12_common 11 = .ok (.lload_n 0, 1) := by decide +kernel
theorem dX12_common_12 : decode cX12_common 12 = .ok (.lload_n 2, 1) := by decide +kernel
theorem dX12_common_13 : decode cX12_common 13 = .ok (.lrem, 1) := by decide +kernel
theorem dX12_common_14 : decode cX12_common 14 = .ok (.invokestatic 322, 3) := by decide +kernel
theorem dX12_common_17 : decode cX12_common 17 = .ok (.lreturn, 1) := by decide +kernel
def fX12_common (rec : Nat → Int64 → Int64 → Option Int64) (x0 : Int64) (x2 : Int64) : Option Int64 := if (lg_cmp x2 0) = 0 then (
  some x0)
  else (
  if ¬ x2 = 0 then (
  (rec 0 x2 (zlrem x0 x2)).bind fun (r2 : Int64) =>
  some r2) else none)
set_option maxHeartbeats 4000000 in
theorem cX12_common_ok {E : zE} {d : Nat} (hd : 1 ≤ d) {rec : Nat → Int64 → Int64 → Option Int64} (hrec0 : ∀ (x0 : Int64) (x2 : Int64) (M : zM) {K : Int64 → Prop}, wpO (rec 0 x0 x2) K → CMl E (d - 1) yX12_common cX12_common 4 (some .long) [.long x0, .long x2] M (fun r N => M = N ∧ K r)) (x0 : Int64) (x2 : Int64) (M : zM) {K : Int64 → Prop} (h : wpO (fX12_common rec x0 x2) K) : CMl E d yX12_common cX12_common 4 (some .long) [.long x0, .long x2] M (fun r N => M = N ∧ K r) := by
  refine CMl.of (by decide) (Nat.le_of_ble_eq_true rfl) (fun Γ hC hr => ?_)
  have hC : Cx E Γ RX12 cX12_common 4 d := hC
  show G E Γ 4 0 [(0, .long x0), (2, .long x2)] [] M
  unfold fX12_common at h
  refine g_lload_n (i := 2) (x := x2) hC (dX12_common_0) rfl rfl ?_
  refine g_lconst (v := 0) hC (dX12_common_1) kl_0 ?_
  refine g_lcmp hC (dX12_common_2) ?_
  refine g_if_ne (tgt := 10) hC (dX12_common_3) (by decide) (fun c3 => ?_) (fun c3 => ?_)
  · have h := wpO_f c3 h
    refine g_lload_n (i := 2) (x := x2) hC (dX12_common_10) rfl rfl ?_
    refine g_lload_n (i := 0) (x := x0) hC (dX12_common_11) rfl rfl ?_
    refine g_lload_n (i := 2) (x := x2) hC (dX12_common_12) rfl rfl ?_
    obtain ⟨q1, h⟩ := wpO_g h
    refine g_lrem hC (dX12_common_13) q1 ?_
    have h := wpO_b h
    refine g_callSl ([.long x2, .long (zlrem x0 x2)]) hC wsX12_322 (dX12_common_14) rfl (by omega) (Nat.le_of_ble_eq_true rfl) (hrec0 x2 (zlrem x0 x2) M h) (fun r2 N q => ?_)
    obtain ⟨rfl, h⟩ := q
    refine g_lreturn hC hr (dX12_common_17) ?_
    exact ⟨rfl, wpO_s h⟩
  · have h := wpO_t c3 h
    refine g_lload_n (i := 0) (x := x0) hC (dX12_common_6) rfl rfl ?_
    refine g_goto (tgt := 17) hC (dX12_common_7) (by decide) ?_
    refine g_lreturn hC hr (dX12_common_17) ?_
    exact ⟨rfl, wpO_s h⟩
def fX12c_grp : Nat → Nat → Int64 → Int64 → Option Int64
  | 0, _, _, _ => none
  | n + 1, s, x0, x2 => if s = 0 then fX12_common (fX12c_grp n) x0 x2 else none
theorem cX12c_grp {E : zE} : ∀ (n : Nat) {d : Nat}, 1 + n ≤ d → (∀ (x0 : Int64) (x2 : Int64) (M : zM) {K : Int64 → Prop}, wpO (fX12c_grp n 0 x0 x2) K → CMl E (d) yX12_common cX12_common 4 (some .long) [.long x0, .long x2] M (fun r N => M = N ∧ K r)) := by
  intro n
  induction n with
  | zero => intro d hd; exact fun x0 x2 M K h => (wpO_0 h).elim
  | succ n ih =>
    intro d hd
    have i0 := ih (d := d - 1) (by omega)
    refine fun x0 x2 M K h => ?_
    · rw [fX12c_grp.eq_2] at h
      have h := wpO_t rfl h
      exact cX12_common_ok (by omega) i0 x0 x2 M h
theorem cX12c_grp0 {E : zE} {d : Nat} (hd : 101 ≤ d) : ∀ (x0 : Int64) (x2 : Int64) (M : zM) {K : Int64 → Prop}, wpO (fX12c_grp 100 0 x0 x2) K → CMl E (d) yX12_common cX12_common 4 (some .long) [.long x0, .long x2] M (fun r N => M = N ∧ K r) := (cX12c_grp 100 hd)
/-! LostByStateModel.tellPart(JJ)V -/
theorem dX12_tellPart_0 : decode cX12_tellPart 0 = .ok (.lload_n 1, 1) := by decide +kernel
theorem dX12_tellPart_1 : decode cX12_tellPart 1 = .ok (.lload_n 3, 1) := by decide +kernel
theorem dX12_tellPart_2 : decode cX12_tellPart 2 = .ok (.invokestatic 322, 3) := by decide +kernel
theorem dX12_tellPart_5 : decode cX12_tellPart 5 = .ok (.lstore 5, 2) := by decide +kernel
theorem dX12_tellPart_7 : decode cX12_tellPart 7 = .ok (.aload_n 0, 1) := by decide +kernel
theorem dX12_tellPart_8 : decode cX12_tellPart 8 = .ok (.iconst 0, 1) := by decide +kernel
theorem dX12_tellPart_9 : decode cX12_tellPart 9 = .ok (.putfield 89, 3) := by decide +kernel
theorem dX12_tellPart_12 : decode cX12_tellPart 12 = .ok (.aload_n 0, 1) := by decide +kernel
theorem dX12_tellPart_13 : decode cX12_tellPart 13 = .ok (.lload_n 1, 1) := by decide +kernel
theorem dX12_tellPart_14 : decode cX12_tellPart 14 = .ok (.lload 5, 2) := by decide +kernel
theorem dX12_tellPart_16 : decode cX12_tellPart 16 = .ok (.ldiv, 1) := by decide +kernel
theorem dX12_tellPart_17 : decode cX12_tellPart 17 = .ok (.invokevirtual 280, 3) := by decide +kernel
theorem dX12_tellPart_20 : decode cX12_tellPart 20 = .ok (.aload_n 0, 1) := by decide +kernel
theorem dX12_tellPart_21 : decode cX12_tellPart 21 = .ok (.lload_n 3, 1) := by decide +kernel
theorem dX12_tellPart_22 : decode cX12_tellPart 22 = .ok (.lload 5, 2) := by decide +kernel
theorem dX12_tellPart_24 : decode cX12_tellPart 24 = .ok (.ldiv, 1) := by decide +kernel
theorem dX12_tellPart_25 : decode cX12_tellPart 25 = .ok (.invokevirtual 280, 3) := by decide +kernel
theorem dX12_tellPart_28 : decode cX12_tellPart 28 = .ok (.return_, 1) := by decide +kernel
def fX12_tellPart (x1 : Int64) (x3 : Int64) (M : zM) : Option zM := (fX12c_grp 100 0 x1 x3).bind fun (r1 : Int64) =>
  zlet (zSI M 36 11 0) fun (M9 : zM) =>
  if ¬ r1 = 0 then (
  (fX12_tell (x1 / r1) M9).bind fun (M17 : zM) =>
  (fX12_tell (x3 / r1) M17).bind fun (M25 : zM) =>
  some M25) else none
set_option maxHeartbeats 4000000 in
theorem cX12_tellPart_ok {E : zE} {d : Nat} (hd : 102 ≤ d) (x1 : Int64) (x3 : Int64) (M : zM) {K : zM → Prop} (h : wpO (fX12_tellPart x1 x3 M) K) : CMv E d yX12_tellPart cX12_tellPart 7 (none) [.ref 36, .long x1, .long x3] M K := by
  refine CMv.of (by decide) (Nat.le_of_ble_eq_true rfl) (fun Γ hC hr => ?_)
  have hC : Cx E Γ RX12 cX12_tellPart 7 d := hC
  show G E Γ 7 0 [(0, .ref 36), (1, .long x1), (3, .long x3)] [] M
  unfold fX12_tellPart at h
  refine g_lload_n (i := 1) (x := x1) hC (dX12_tellPart_0) rfl rfl ?_
  refine g_lload_n (i := 3) (x := x3) hC (dX12_tellPart_1) rfl rfl ?_
  have h := wpO_b h
  refine g_callSl ([.long x1, .long x3]) hC wsX12_322 (dX12_tellPart_2) rfl (by omega) (Nat.le_of_ble_eq_true rfl) (cX12c_grp0 (by omega) x1 x3 M h) (fun r1 N q => ?_)
  obtain ⟨rfl, h⟩ := q
  refine g_lstore (i := 5) (lv2 := [(5, .long r1), (0, .ref 36), (1, .long x1), (3, .long x3)]) hC (dX12_tellPart_5) (by decide) rfl ?_
  refine g_aload_n (i := 0) (x := 36) hC (dX12_tellPart_7) rfl rfl ?_
  refine g_iconst (v := 0) hC (dX12_tellPart_8) kc_0 ?_
  refine g_putI hC fpX12_89 (dX12_tellPart_9) rfl rfl rfl rfl ?_
  refine g_nmM (fun M9 e_M9 => ?_)
  have h := wpO_n e_M9 h
  refine g_aload_n (i := 0) (x := 36) hC (dX12_tellPart_12) rfl rfl ?_
  refine g_lload_n (i := 1) (x := x1) hC (dX12_tellPart_13) rfl rfl ?_
  refine g_lload (i := 5) (x := r1) hC (dX12_tellPart_14) rfl ?_
  obtain ⟨q2, h⟩ := wpO_g h
  refine g_ldiv hC (dX12_tellPart_16) q2 ?_
  have h := wpO_b h
  refine g_callVv ([.long (x1 / r1)]) hC wvX12_280 (dX12_tellPart_17) rfl rfl (by omega) (Nat.le_of_ble_eq_true rfl) (cX12_tell_ok (by omega) (x1 / r1) M9 h) (fun M17 h => ?_)
  refine g_aload_n (i := 0) (x := 36) hC (dX12_tellPart_20) rfl rfl ?_
  refine g_lload_n (i := 3) (x := x3) hC (dX12_tellPart_21) rfl rfl ?_
  refine g_lload (i := 5) (x := r1) hC (dX12_tellPart_22) rfl ?_
  refine g_ldiv hC (dX12_tellPart_24) q2 ?_
  have h := wpO_b h
  refine g_callVv ([.long (x3 / r1)]) hC wvX12_280 (dX12_tellPart_25) rfl rfl (by omega) (Nat.le_of_ble_eq_true rfl) (cX12_tell_ok (by omega) (x3 / r1) M17 h) (fun M25 h => ?_)
  refine g_vreturn hC hr (dX12_tellPart_28) ?_
  exact wpO_s h
/-! LostByStateModel.looks(I)I -/
theorem dX12_looks_0 : decode cX12_looks 0 = .ok (.aload_n 0, 1) := by decide +kernel
theorem dX12_looks_1 : decode cX12_looks 1 = .ok (.iconst 0, 1) := by decide +kernel
theorem dX12_looks_2 : decode cX12_looks 2 = .ok (.putfield 86, 3) := by decide +kernel
theorem dX12_looks_5 : decode cX12_looks 5 = .ok (.iload_n 1, 1) := by decide +kernel
theorem dX12_looks_6 : decode cX12_looks 6 = .ok (.iconst 0, 1) := by decide +kernel
theorem dX12_looks_7 : decode cX12_looks 7 = .ok (.bipush 10, 2) := by decide +kernel
theorem dX12_looks_9 : decode cX12_looks 9 = .ok (.invokestatic 95, 3) := by decide +kernel
theorem dX12_looks_12 : decode cX12_looks 12 = .ok (.ifCond .ne 12, 3) := by decide +kernel
theorem dX12_looks_15 : decode cX12_looks 15 = .ok (.aload_n 0, 1) := by decide +kernel
theorem dX12_looks_16 : decode cX12_looks 16 = .ok (.iconst 0, 1) := by decide +kernel
theorem dX12_looks_17 : decode cX12_looks 17 = .ok (.putfield 102, 3) := by decide +kernel
theorem dX12_looks_20 : decode cX12_looks 20 = .ok (.sipush (-200), 3) := by decide +kernel
theorem dX12_looks_23 : decode cX12_looks 23 = .ok (.ireturn, 1) := by decide +kernel
theorem dX12_looks_24 : decode cX12_looks 24 = .ok (.aload_n 0, 1) := by decide +kernel
theorem dX12_looks_25 : decode cX12_looks 25 = .ok (.bipush 6, 2) := by decide +kernel
theorem dX12_looks_27 : decode cX12_looks 27 = .ok (.invokevirtual 150, 3) := by decide +kernel
theorem dX12_looks_30 : decode cX12_looks 30 = .ok (.lconst 0, 1) := by decide +kernel
theorem dX12_looks_31 : decode cX12_looks 31 = .ok (.lstore_n 2, 1) := by decide +kernel
theorem dX12_looks_32 : decode cX12_looks 32 = .ok (.iconst 0, 1) := by decide +kernel
theorem dX12_looks_33 : decode cX12_looks 33 = .ok (.istore 4, 2) := by decide +kernel
theorem dX12_looks_35 : decode cX12_looks 35 = .ok (.iload 4, 2) := by decide +kernel
theorem dX12_looks_37 : decode cX12_looks 37 = .ok (.bipush 6, 2) := by decide +kernel
theorem dX12_looks_39 : decode cX12_looks 39 = .ok (.if_icmp .ge 39, 3) := by decide +kernel
theorem dX12_looks_42 : decode cX12_looks 42 = .ok (.aload_n 0, 1) := by decide +kernel
theorem dX12_looks_43 : decode cX12_looks 43 = .ok (.getfield 67, 3) := by decide +kernel
theorem dX12_looks_46 : decode cX12_looks 46 = .ok (.iload 4, 2) := by decide +kernel
theorem dX12_looks_48 : decode cX12_looks 48 = .ok (.ldc2_w 326, 3) := by decide +kernel
theorem dX12_looks_51 : decode cX12_looks 51 = .ok (.aload_n 0, 1) := by decide +kernel
theorem dX12_looks_52 : decode cX12_looks 52 = .ok (.bipush 48, 2) := by decide +kernel
theorem dX12_looks_54 : decode cX12_looks 54 = .ok (.bipush 10, 2) := by decide +kernel
theorem dX12_looks_56 : decode cX12_looks 56 = .ok (.invokevirtual 140, 3) := by decide +kernel
theorem dX12_looks_59 : decode cX12_looks 59 = .ok (.i2l, 1) := by decide +kernel
theorem dX12_looks_60 : decode cX12_looks 60 = .ok (.lmul, 1) := by decide +kernel
theorem dX12_looks_61 : decode cX12_looks 61 = .ok (.lastore, 1) := by decide +kernel
theorem dX12_looks_62 : decode cX12_looks 62 = .ok (.lload_n 2, 1) := by decide +kernel
theorem dX12_looks_63 : decode cX12_looks 63 = .ok (.aload_n 0, 1) := by decide +kernel
theorem dX12_looks_64 : decode cX12_looks 64 = .ok (.getfield 67, 3) := by decide +kernel
theorem dX12_looks_67 : decode cX12_looks 67 = .ok (.iload 4, 2) := by decide +kernel
theorem dX12_looks_69 : decode cX12_looks 69 = .ok (.laload, 1) := by decide +kernel
theorem dX12_looks_70 : decode cX12_looks 70 = .ok (.ladd, 1) := by decide +kernel
theorem dX12_looks_71 : decode cX12_looks 71 = .ok (.lstore_n 2, 1) := by decide +kernel
theorem dX12_looks_72 : decode cX12_looks 72 = .ok (.iinc 4 1, 3) := by decide +kernel
theorem dX12_looks_75 : decode cX12_looks 75 = .ok (.goto (-40), 3) := by decide +kernel
theorem dX12_looks_78 : decode cX12_looks 78 = .ok (.aload_n 0, 1) := by decide +kernel
theorem dX12_looks_79 : decode cX12_looks 79 = .ok (.invokevirtual 157, 3) := by decide +kernel
theorem dX12_looks_82 : decode cX12_looks 82 = .ok (.ifCond .ne 10, 3) := by decide +kernel
theorem dX12_looks_85 : decode cX12_looks 85 = .ok (.iconst (-1), 1) := by decide +kernel
theorem dX12_looks_86 : decode cX12_looks 86 = .ok (.aload_n 0, 1) := by decide +kernel
theorem dX12_looks_87 : decode cX12_looks 87 = .ok (.getfield 117, 3) := by decide +kernel
theorem dX12_looks_90 : decode cX12_looks 90 = .ok (.isub, 1) := by decide +kernel
theorem dX12_looks_91 : decode cX12_looks 91 = .ok (.ireturn, 1) := by decide +kernel
theorem dX12_looks_92 : decode cX12_looks 92 = .ok (.lload_n 2, 1) := by decide +kernel
theorem dX12_looks_93 : decode cX12_looks 93 = .ok (.lconst 0, 1) := by decide +kernel
theorem dX12_looks_94 : decode cX12_looks 94 = .ok (.lcmp, 1) := by decide +kernel
theorem dX12_looks_95 : decode cX12_looks 95 = .ok (.ifCond .ne 6, 3) := by decide +kernel
theorem dX12_looks_98 : decode cX12_looks 98 = .ok (.bipush (-100), 2) := by decide +kernel
theorem dX12_looks_100 : decode cX12_looks 100 = .ok (.ireturn, 1) := by decide +kernel
theorem dX12_looks_101 : decode cX12_looks 101 = .ok (.lconst 0, 1) := by decide +kernel
theorem dX12_looks_102 : decode cX12_looks 102 = .ok (.lstore 4, 2) := by decide +kernel
theorem dX12_looks_104 : decode cX12_looks 104 = .ok (.iconst 0, 1) := by decide +kernel
theorem dX12_looks_105 : decode cX12_looks 105 = .ok (.istore 6, 2) := by decide +kernel
theorem dX12_looks_107 : decode cX12_looks 107 = .ok (.iload 6, 2) := by decide +kernel
theorem dX12_looks_109 : decode cX12_looks 109 = .ok (.iload_n 1, 1) := by decide +kernel
theorem dX12_looks_110 : decode cX12_looks 110 = .ok (.if_icmp .ge 89, 3) := by decide +kernel
theorem dX12_looks_113 : decode cX12_looks 113 = .ok (.iconst 0, 1) := by decide +kernel
theorem dX12_looks_114 : decode cX12_looks 114 = .ok (.istore 7, 2) := by decide +kernel
theorem dX12_looks_116 : decode cX12_looks 116 = .ok (.iconst 1, 1) := by decide +kernel
theorem dX12_looks_117 : decode cX12_looks 117 = .ok (.istore 8, 2) := by decide +kernel
theorem dX12_looks_119 : decode cX12_looks 119 = .ok (.iload 8, 2) := by decide +kernel
theorem dX12_looks_121 : decode cX12_looks 121 = .ok (.bipush 6, 2) := by decide +kernel
theorem dX12_looks_123 : decode cX12_looks 123 = .ok (.if_icmp .ge 36, 3) := by decide +kernel
theorem dX12_looks_126 : decode cX12_looks 126 = .ok (.aload_n 0, 1) := by decide +kernel
theorem dX12_looks_127 : decode cX12_looks 127 = .ok (.getfield 67, 3) := by decide +kernel
theorem dX12_looks_130 : decode cX12_looks 130 = .ok (.iload 8, 2) := by decide +kernel
theorem dX12_looks_132 : decode cX12_looks 132 = .ok (.laload, 1) := by decide +kernel
theorem dX12_looks_133 : decode cX12_looks 133 = .ok (.aload_n 0, 1) := by decide +kernel
theorem dX12_looks_134 : decode cX12_looks 134 = .ok (.getfield 67, 3) := by decide +kernel
theorem dX12_looks_137 : decode cX12_looks 137 = .ok (.iload 7, 2) := by decide +kernel
theorem dX12_looks_139 : decode cX12_looks 139 = .ok (.laload, 1) := by decide +kernel
theorem dX12_looks_140 : decode cX12_looks 140 = .ok (.lcmp, 1) := by decide +kernel
theorem dX12_looks_141 : decode cX12_looks 141 = .ok (.ifCond .le 8, 3) := by decide +kernel
theorem dX12_looks_144 : decode cX12_looks 144 = .ok (.iload 8, 2) := by decide +kernel
theorem dX12_looks_146 : decode cX12_looks 146 = .ok (.goto 5, 3) := by decide +kernel
theorem dX12_looks_149 : decode cX12_looks 149 = .ok (.iload 7, 2) := by decide +kernel
theorem dX12_looks_151 : decode cX12_looks 151 = .ok (.istore 7, 2) := by decide +kernel
theorem dX12_looks_153 : decode cX12_looks 153 = .ok (.iinc 8 1, 3) := by decide +kernel
theorem dX12_looks_156 : decode cX12_looks 156 = .ok (.goto (-37), 3) := by decide +kernel
theorem dX12_looks_159 : decode cX12_looks 159 = .ok (.aload_n 0, 1) := by decide +kernel
theorem dX12_looks_160 : decode cX12_looks 160 = .ok (.getfield 67, 3) := by decide +kernel
theorem dX12_looks_163 : decode cX12_looks 163 = .ok (.iload 7, 2) := by decide +kernel
theorem dX12_looks_165 : decode cX12_looks 165 = .ok (.dup2, 1) := by decide +kernel
theorem dX12_looks_166 : decode cX12_looks 166 = .ok (.laload, 1) := by decide +kernel
theorem dX12_looks_167 : decode cX12_looks 167 = .ok (.ldc2_w 328, 3) := by decide +kernel
theorem dX12_looks_170 : decode cX12_looks 170 = .ok (.ldiv, 1) := by decide +kernel
theorem dX12_looks_171 : decode cX12_looks 171 = .ok (.lastore, 1) := by decide +kernel
theorem dX12_looks_172 : decode cX12_looks 172 = .ok (.lload 4, 2) := by decide +kernel
theorem dX12_looks_174 : decode cX12_looks 174 = .ok (.aload_n 0, 1) := by decide +kernel
theorem dX12_looks_175 : decode cX12_looks 175 = .ok (.getfield 67, 3) := by decide +kernel
theorem dX12_looks_178 : decode cX12_looks 178 = .ok (.iload 7, 2) := by decide +kernel
theorem dX12_looks_180 : decode cX12_looks 180 = .ok (.laload, 1) := by decide +kernel
theorem dX12_looks_181 : decode cX12_looks 181 = .ok (.ladd, 1) := by decide +kernel
theorem dX12_looks_182 : decode cX12_looks 182 = .ok (.lstore 4, 2) := by decide +kernel
theorem dX12_looks_184 : decode cX12_looks 184 = .ok (.aload_n 0, 1) := by decide +kernel
theorem dX12_looks_185 : decode cX12_looks 185 = .ok (.getfield 70, 3) := by decide +kernel
theorem dX12_looks_188 : decode cX12_looks 188 = .ok (.iload 6, 2) := by decide +kernel
theorem dX12_looks_190 : decode cX12_looks 190 = .ok (.iload 7, 2) := by decide +kernel
theorem dX12_looks_192 : decode cX12_looks 192 = .ok (.iastore, 1) := by decide +kernel
theorem dX12_looks_193 : decode cX12_looks 193 = .ok (.iinc 6 1, 3) := by decide +kernel
theorem dX12_looks_196 : decode cX12_looks 196 = .ok (.goto (-89), 3) := by decide +kernel
theorem dX12_looks_199 : decode cX12_looks 199 = .ok (.aload_n 0, 1) := by decide +kernel
theorem dX12_looks_200 : decode cX12_looks 200 = .ok (.lload 4, 2) := by decide +kernel
theorem dX12_looks_202 : decode cX12_looks 202 = .ok (.lload_n 2, 1) := by decide +kernel
theorem dX12_looks_203 : decode cX12_looks 203 = .ok (.invokevirtual 330, 3) := by decide +kernel
theorem dX12_looks_206 : decode cX12_looks 206 = .ok (.iconst 0, 1) := by decide +kernel
theorem dX12_looks_207 : decode cX12_looks 207 = .ok (.istore 6, 2) := by decide +kernel
theorem dX12_looks_209 : decode cX12_looks 209 = .ok (.iload 6, 2) := by decide +kernel
theorem dX12_looks_211 : decode cX12_looks 211 = .ok (.iload_n 1, 1) := by decide +kernel
theorem dX12_looks_212 : decode cX12_looks 212 = .ok (.if_icmp .ge 21, 3) := by decide +kernel
theorem dX12_looks_215 : decode cX12_looks 215 = .ok (.aload_n 0, 1) := by decide +kernel
theorem dX12_looks_216 : decode cX12_looks 216 = .ok (.aload_n 0, 1) := by decide +kernel
theorem dX12_looks_217 : decode cX12_looks 217 = .ok (.getfield 70, 3) := by decide +kernel
theorem dX12_looks_220 : decode cX12_looks 220 = .ok (.iload 6, 2) := by decide +kernel
theorem dX12_looks_222 : decode cX12_looks 222 = .ok (.iaload, 1) := by decide +kernel
theorem dX12_looks_223 : decode cX12_looks 223 = .ok (.i2l, 1) := by decide +kernel
theorem dX12_looks_224 : decode cX12_looks 224 = .ok (.invokevirtual 280, 3) := by decide +kernel
theorem dX12_looks_227 : decode cX12_looks 227 = .ok (.iinc 6 1, 3) := by decide +kernel
theorem dX12_looks_230 : decode cX12_looks 230 = .ok (.goto (-21), 3) := by decide +kernel
theorem dX12_looks_233 : decode cX12_looks 233 = .ok (.iconst 0, 1) := by decide +kernel
theorem dX12_looks_234 : decode cX12_looks 234 = .ok (.ireturn, 1) := by decide +kernel
def fX12_looks_L35 (x1 : Int32) : Nat → Int64 → Int32 → zM → Option (Int64 × zM)
  | 0, _, _, _ => none
  | n + 1, x2, x4, M => if 6 ≤ x4 then (
    some (x2, M))
    else (
    (fX12_oneOf 48 10 M).bind fun (q : Int32 × zM) => zp q fun r3 M56 =>
    if zin x4 6 then (
    zlet (zSJ M56 53 x4.toNatClampNeg (1024 * r3.toInt64)) fun (M61 : zM) =>
    zlet (x2 + (M61.2.1 53 x4.toNatClampNeg)) fun (x2_71 : Int64) =>
    fX12_looks_L35 x1 n x2_71 (x4 + 1) M61) else none)
def fX12_looks_L119 (x1 : Int32) (x2 : Int64) (x4 : Int64) (x6 : Int32) (M : zM) : Nat → Int32 → Int32 → Option Int32
  | 0, _, _ => none
  | n + 1, x7, x8 => if 6 ≤ x8 then (
    some x7)
    else (
    if zin x8 6 then (
    if zin x7 6 then (
    zlet (if (lg_cmp (M.2.1 53 x8.toNatClampNeg) (M.2.1 53 x7.toNatClampNeg)) ≤ 0 then (
    x7)
    else (
    x8)) fun (s0_151 : Int32) =>
    fX12_looks_L119 x1 x2 x4 x6 M n s0_151 (x8 + 1)) else none) else none)
def fX12_looks_L107 (x1 : Int32) (x2 : Int64) : Nat → Int64 → Int32 → zM → Option (Int64 × zM)
  | 0, _, _, _ => none
  | n + 1, x4, x6, M => if x1 ≤ x6 then (
    some (x4, M))
    else (
    (fX12_looks_L119 x1 x2 x4 x6 M 4000 0 1).bind fun (x7_159 : Int32) =>
    if zin x7_159 6 then (
    zlet (zSJ M 53 x7_159.toNatClampNeg ((M.2.1 53 x7_159.toNatClampNeg) / 2)) fun (M171 : zM) =>
    zlet (x4 + (M171.2.1 53 x7_159.toNatClampNeg)) fun (x4_182 : Int64) =>
    if zin x6 10 then (
    zlet (zSI M171 54 x6.toNatClampNeg x7_159) fun (M192 : zM) =>
    fX12_looks_L107 x1 x2 n x4_182 (x6 + 1) M192) else none) else none)
def fX12_looks_L209 (x1 : Int32) : Nat → Int32 → zM → Option zM
  | 0, _, _ => none
  | n + 1, x6, M => if x1 ≤ x6 then (
    some M)
    else (
    if zin x6 10 then (
    (fX12_tell ((M.1 54 x6.toNatClampNeg).toInt64) M).bind fun (M224 : zM) =>
    fX12_looks_L209 x1 n (x6 + 1) M224) else none)
def fX12_looks (x1 : Int32) (M : zM) : Option (Int32 × zM) := zlet (zSI M 36 12 0) fun (M2 : zM) =>
  if (fX12_in x1 0 10) = 0 then (
  zlet (zSI M2 36 9 0) fun (M17 : zM) =>
  some ((-200), M17))
  else (
  zlet (fX12_beginText 6 M2) fun (M27 : zM) =>
  (fX12_looks_L35 x1 4000 0 0 M27).bind fun (q : Int64 × zM) => zp q fun x2_78 M_78 =>
  zlet ((fX12_wasRight M_78).2) fun (M79 : zM) =>
  if ((fX12_wasRight M_78).1) = 0 then (
  some ((-1) - (M79.1 36 17), M79))
  else (
  if (lg_cmp x2_78 0) = 0 then (
  some ((-100), M79))
  else (
  (fX12_looks_L107 x1 x2_78 4000 0 0 M79).bind fun (q : Int64 × zM) => zp q fun x4_199 M_199 =>
  (fX12_tellPart x4_199 x2_78 M_199).bind fun (M203 : zM) =>
  (fX12_looks_L209 x1 4000 0 M203).bind fun (M_233 : zM) =>
  some (0, M_233))))
set_option maxHeartbeats 4000000 in
theorem lX12_looks_35 {E : zE} {Γ : zT} {d : Nat} {K1 : (Int64 × zM) → Prop} (hC : Cx E Γ RX12 cX12_looks 9 d) (hd : 103 ≤ d) (x1 : Int32) (hx : ∀ (x2_78 : Int64) (M_78 : zM), K1 (x2_78, M_78) → G E Γ 9 78 [(0, .ref 36), (1, .int x1), (2, .long x2_78)] [] M_78) :
    ∀ (n : Nat) (x2 : Int64) (x4 : Int32) (M : zM), wpO (fX12_looks_L35 x1 n x2 x4 M) K1 → G E Γ 9 35 [(0, .ref 36), (1, .int x1), (2, .long x2), (4, .int x4)] [] M := by
  intro n
  induction n with
  | zero =>
    intro x2 x4 M h
    exact (wpO_0 h).elim
  | succ n ih =>
    intro x2 x4 M h
    rw [fX12_looks_L35.eq_2] at h
    refine g_iload (i := 4) (x := x4) hC (dX12_looks_35) rfl ?_
    refine g_bipush (v := 6) hC (dX12_looks_37) kb_6 ?_
    refine g_icmp_ge (tgt := 78) hC (dX12_looks_39) (by decide) (fun c39 => ?_) (fun c39 => ?_)
    · have h := wpO_t c39 h
      refine g_sub (lv' := [(0, .ref 36), (1, .int x1), (2, .long x2)]) [0, 1, 2] rfl ?_
      exact hx _ _ (wpO_s h)
    · have h := wpO_f c39 h
      refine g_aload_n (i := 0) (x := 36) hC (dX12_looks_42) rfl rfl ?_
      refine g_getR (r := 53) hC flX12_67 (dX12_looks_43) rfl rfl rfl ?_
      refine g_iload (i := 4) (x := x4) hC (dX12_looks_46) rfl ?_
      refine g_ldc2_w (v := 1024) hC m_1567 (dX12_looks_48) ?_
      refine g_aload_n (i := 0) (x := 36) hC (dX12_looks_51) rfl rfl ?_
      refine g_bipush (v := 48) hC (dX12_looks_52) kb_48 ?_
      refine g_bipush (v := 10) hC (dX12_looks_54) kb_10 ?_
      have h := wpO_b h
      refine g_callVi ([.int 48, .int 10]) hC wvX12_140 (dX12_looks_56) rfl rfl (by omega) (Nat.le_of_ble_eq_true rfl) (cX12_oneOf_ok (by omega) 48 10 M h) (fun r3 M56 h => ?_)
      have h := wpO_p h
      refine g_i2l hC (dX12_looks_59) ?_
      refine g_lmul hC (dX12_looks_60) ?_
      obtain ⟨q4, h⟩ := wpO_g h
      refine g_lastore (n := 6) hC (dX12_looks_61) rfl q4 ?_
      refine g_nmM (fun M61 e_M61 => ?_)
      have h := wpO_n e_M61 h
      refine g_lload_n (i := 2) (x := x2) hC (dX12_looks_62) rfl rfl ?_
      refine g_aload_n (i := 0) (x := 36) hC (dX12_looks_63) rfl rfl ?_
      refine g_getR (r := 53) hC flX12_67 (dX12_looks_64) rfl rfl rfl ?_
      refine g_iload (i := 4) (x := x4) hC (dX12_looks_67) rfl ?_
      refine g_laload (n := 6) hC (dX12_looks_69) rfl q4 ?_
      refine g_ladd hC (dX12_looks_70) ?_
      refine g_nml (fun x2_71 e_x2_71 => ?_)
      have h := wpO_n e_x2_71 h
      refine g_lstore_n (i := 2) (lv2 := [(2, .long x2_71), (0, .ref 36), (1, .int x1), (4, .int x4)]) hC (dX12_looks_71) rfl (by decide) rfl ?_
      refine g_iinc (x := x4) (v := (x4 + 1)) (lv2 := [(4, .int (x4 + 1)), (2, .long x2_71), (0, .ref 36), (1, .int x1)]) hC (dX12_looks_72) rfl rfl (by decide) rfl ?_
      refine g_goto (tgt := 35) hC (dX12_looks_75) (by decide) ?_
      refine g_sub (lv' := [(0, .ref 36), (1, .int x1), (2, .long x2_71), (4, .int (x4 + 1))]) [2, 3, 1, 0] rfl ?_
      exact ih _ _ _ h
set_option maxHeartbeats 4000000 in
theorem lX12_looks_119 {E : zE} {Γ : zT} {d : Nat} {K1 : Int32 → Prop} (hC : Cx E Γ RX12 cX12_looks 9 d) (hd : 103 ≤ d) (x1 : Int32) (x2 : Int64) (x4 : Int64) (x6 : Int32) (M : zM) (hx : ∀ (x7_159 : Int32), K1 x7_159 → G E Γ 9 159 [(0, .ref 36), (1, .int x1), (2, .long x2), (4, .long x4), (6, .int x6), (7, .int x7_159)] [] M) :
    ∀ (n : Nat) (x7 : Int32) (x8 : Int32), wpO (fX12_looks_L119 x1 x2 x4 x6 M n x7 x8) K1 → G E Γ 9 119 [(0, .ref 36), (1, .int x1), (2, .long x2), (4, .long x4), (6, .int x6), (7, .int x7), (8, .int x8)] [] M := by
  intro n
  induction n with
  | zero =>
    intro x7 x8 h
    exact (wpO_0 h).elim
  | succ n ih =>
    intro x7 x8 h
    rw [fX12_looks_L119.eq_2] at h
    refine g_iload (i := 8) (x := x8) hC (dX12_looks_119) rfl ?_
    refine g_bipush (v := 6) hC (dX12_looks_121) kb_6 ?_
    refine g_icmp_ge (tgt := 159) hC (dX12_looks_123) (by decide) (fun c123 => ?_) (fun c123 => ?_)
    · have h := wpO_t c123 h
      refine g_sub (lv' := [(0, .ref 36), (1, .int x1), (2, .long x2), (4, .long x4), (6, .int x6), (7, .int x7)]) [0, 1, 2, 3, 4, 5] rfl ?_
      exact hx _ (wpO_s h)
    · have h := wpO_f c123 h
      refine g_aload_n (i := 0) (x := 36) hC (dX12_looks_126) rfl rfl ?_
      refine g_getR (r := 53) hC flX12_67 (dX12_looks_127) rfl rfl rfl ?_
      refine g_iload (i := 8) (x := x8) hC (dX12_looks_130) rfl ?_
      obtain ⟨q6, h⟩ := wpO_g h
      refine g_laload (n := 6) hC (dX12_looks_132) rfl q6 ?_
      refine g_aload_n (i := 0) (x := 36) hC (dX12_looks_133) rfl rfl ?_
      refine g_getR (r := 53) hC flX12_67 (dX12_looks_134) rfl rfl rfl ?_
      refine g_iload (i := 7) (x := x7) hC (dX12_looks_137) rfl ?_
      obtain ⟨q7, h⟩ := wpO_g h
      refine g_laload (n := 6) hC (dX12_looks_139) rfl q7 ?_
      refine g_lcmp hC (dX12_looks_140) ?_
      obtain ⟨s0_151, e_s0_151, h⟩ := wpO_l h
      have hJ8 : G E Γ 9 151 [(0, .ref 36), (1, .int x1), (2, .long x2), (4, .long x4), (6, .int x6), (8, .int x8)] [.int s0_151] M := by
        refine g_istore (i := 7) (lv2 := [(7, .int s0_151), (0, .ref 36), (1, .int x1), (2, .long x2), (4, .long x4), (6, .int x6), (8, .int x8)]) hC (dX12_looks_151) (by decide) rfl ?_
        refine g_iinc (x := x8) (v := (x8 + 1)) (lv2 := [(8, .int (x8 + 1)), (7, .int s0_151), (0, .ref 36), (1, .int x1), (2, .long x2), (4, .long x4), (6, .int x6)]) hC (dX12_looks_153) rfl rfl (by decide) rfl ?_
        refine g_goto (tgt := 119) hC (dX12_looks_156) (by decide) ?_
        refine g_sub (lv' := [(0, .ref 36), (1, .int x1), (2, .long x2), (4, .long x4), (6, .int x6), (7, .int s0_151), (8, .int (x8 + 1))]) [2, 3, 4, 5, 6, 1, 0] rfl ?_
        exact ih _ _ h
      refine g_if_le (tgt := 149) hC (dX12_looks_141) (by decide) (fun c141 => ?_) (fun c141 => ?_)
      · rw [if_pos c141] at e_s0_151
        refine g_iload (i := 7) (x := x7) hC (dX12_looks_149) rfl ?_
        refine g_sub (lv' := [(0, .ref 36), (1, .int x1), (2, .long x2), (4, .long x4), (6, .int x6), (8, .int x8)]) [0, 1, 2, 3, 4, 6] rfl ?_
        subst e_s0_151
        exact hJ8
      · rw [if_neg c141] at e_s0_151
        refine g_iload (i := 8) (x := x8) hC (dX12_looks_144) rfl ?_
        refine g_goto (tgt := 151) hC (dX12_looks_146) (by decide) ?_
        refine g_sub (lv' := [(0, .ref 36), (1, .int x1), (2, .long x2), (4, .long x4), (6, .int x6), (8, .int x8)]) [0, 1, 2, 3, 4, 6] rfl ?_
        subst e_s0_151
        exact hJ8
set_option maxHeartbeats 4000000 in
theorem lX12_looks_107 {E : zE} {Γ : zT} {d : Nat} {K1 : (Int64 × zM) → Prop} (hC : Cx E Γ RX12 cX12_looks 9 d) (hd : 103 ≤ d) (x1 : Int32) (x2 : Int64) (hx : ∀ (x4_199 : Int64) (M_199 : zM), K1 (x4_199, M_199) → G E Γ 9 199 [(0, .ref 36), (1, .int x1), (2, .long x2), (4, .long x4_199)] [] M_199) :
    ∀ (n : Nat) (x4 : Int64) (x6 : Int32) (M : zM), wpO (fX12_looks_L107 x1 x2 n x4 x6 M) K1 → G E Γ 9 107 [(0, .ref 36), (1, .int x1), (2, .long x2), (4, .long x4), (6, .int x6)] [] M := by
  intro n
  induction n with
  | zero =>
    intro x4 x6 M h
    exact (wpO_0 h).elim
  | succ n ih =>
    intro x4 x6 M h
    rw [fX12_looks_L107.eq_2] at h
    refine g_iload (i := 6) (x := x6) hC (dX12_looks_107) rfl ?_
    refine g_iload_n (i := 1) (x := x1) hC (dX12_looks_109) rfl rfl ?_
    refine g_icmp_ge (tgt := 199) hC (dX12_looks_110) (by decide) (fun c110 => ?_) (fun c110 => ?_)
    · have h := wpO_t c110 h
      refine g_sub (lv' := [(0, .ref 36), (1, .int x1), (2, .long x2), (4, .long x4)]) [0, 1, 2, 3] rfl ?_
      exact hx _ _ (wpO_s h)
    · have h := wpO_f c110 h
      refine g_iconst (v := 0) hC (dX12_looks_113) kc_0 ?_
      refine g_istore (i := 7) (lv2 := [(7, .int 0), (0, .ref 36), (1, .int x1), (2, .long x2), (4, .long x4), (6, .int x6)]) hC (dX12_looks_114) (by decide) rfl ?_
      refine g_iconst (v := 1) hC (dX12_looks_116) kc_1 ?_
      refine g_istore (i := 8) (lv2 := [(8, .int 1), (7, .int 0), (0, .ref 36), (1, .int x1), (2, .long x2), (4, .long x4), (6, .int x6)]) hC (dX12_looks_117) (by decide) rfl ?_
      refine g_sub (lv' := [(0, .ref 36), (1, .int x1), (2, .long x2), (4, .long x4), (6, .int x6), (7, .int 0), (8, .int 1)]) [2, 3, 4, 5, 6, 1, 0] rfl ?_
      refine wpO_bJ h (fun KL119 hKL119 h => ?_)
      refine lX12_looks_119 (K1 := KL119) hC (by omega) x1 x2 x4 x6 M (fun x7_159 h => ?_) _ _ _ h
      have h := hKL119 _ h
      refine g_aload_n (i := 0) (x := 36) hC (dX12_looks_159) rfl rfl ?_
      refine g_getR (r := 53) hC flX12_67 (dX12_looks_160) rfl rfl rfl ?_
      refine g_iload (i := 7) (x := x7_159) hC (dX12_looks_163) rfl ?_
      refine g_dup2 hC (dX12_looks_165) rfl rfl ?_
      obtain ⟨q9, h⟩ := wpO_g h
      refine g_laload (n := 6) hC (dX12_looks_166) rfl q9 ?_
      refine g_ldc2_w (v := 2) hC m_1568 (dX12_looks_167) ?_
      refine g_ldiv hC (dX12_looks_170) (by decide) ?_
      refine g_lastore (n := 6) hC (dX12_looks_171) rfl q9 ?_
      refine g_nmM (fun M171 e_M171 => ?_)
      have h := wpO_n e_M171 h
      refine g_lload (i := 4) (x := x4) hC (dX12_looks_172) rfl ?_
      refine g_aload_n (i := 0) (x := 36) hC (dX12_looks_174) rfl rfl ?_
      refine g_getR (r := 53) hC flX12_67 (dX12_looks_175) rfl rfl rfl ?_
      refine g_iload (i := 7) (x := x7_159) hC (dX12_looks_178) rfl ?_
      refine g_laload (n := 6) hC (dX12_looks_180) rfl q9 ?_
      refine g_ladd hC (dX12_looks_181) ?_
      refine g_nml (fun x4_182 e_x4_182 => ?_)
      have h := wpO_n e_x4_182 h
      refine g_lstore (i := 4) (lv2 := [(4, .long x4_182), (0, .ref 36), (1, .int x1), (2, .long x2), (6, .int x6), (7, .int x7_159)]) hC (dX12_looks_182) (by decide) rfl ?_
      refine g_aload_n (i := 0) (x := 36) hC (dX12_looks_184) rfl rfl ?_
      refine g_getR (r := 54) hC flX12_70 (dX12_looks_185) rfl rfl rfl ?_
      refine g_iload (i := 6) (x := x6) hC (dX12_looks_188) rfl ?_
      refine g_iload (i := 7) (x := x7_159) hC (dX12_looks_190) rfl ?_
      obtain ⟨q10, h⟩ := wpO_g h
      refine g_iastore (n := 10) hC (dX12_looks_192) rfl q10 ?_
      refine g_nmM (fun M192 e_M192 => ?_)
      have h := wpO_n e_M192 h
      refine g_iinc (x := x6) (v := (x6 + 1)) (lv2 := [(6, .int (x6 + 1)), (4, .long x4_182), (0, .ref 36), (1, .int x1), (2, .long x2), (7, .int x7_159)]) hC (dX12_looks_193) rfl rfl (by decide) rfl ?_
      refine g_goto (tgt := 107) hC (dX12_looks_196) (by decide) ?_
      refine g_sub (lv' := [(0, .ref 36), (1, .int x1), (2, .long x2), (4, .long x4_182), (6, .int (x6 + 1))]) [2, 3, 4, 1, 0] rfl ?_
      exact ih _ _ _ h
set_option maxHeartbeats 4000000 in
theorem lX12_looks_209 {E : zE} {Γ : zT} {d : Nat} {K1 : zM → Prop} (hC : Cx E Γ RX12 cX12_looks 9 d) (hd : 103 ≤ d) (x1 : Int32) (hx : ∀ (M_233 : zM), K1 M_233 → G E Γ 9 233 [] [] M_233) :
    ∀ (n : Nat) (x6 : Int32) (M : zM), wpO (fX12_looks_L209 x1 n x6 M) K1 → G E Γ 9 209 [(0, .ref 36), (1, .int x1), (6, .int x6)] [] M := by
  intro n
  induction n with
  | zero =>
    intro x6 M h
    exact (wpO_0 h).elim
  | succ n ih =>
    intro x6 M h
    rw [fX12_looks_L209.eq_2] at h
    refine g_iload (i := 6) (x := x6) hC (dX12_looks_209) rfl ?_
    refine g_iload_n (i := 1) (x := x1) hC (dX12_looks_211) rfl rfl ?_
    refine g_icmp_ge (tgt := 233) hC (dX12_looks_212) (by decide) (fun c212 => ?_) (fun c212 => ?_)
    · have h := wpO_t c212 h
      refine g_sub (lv' := []) [] rfl ?_
      exact hx _ (wpO_s h)
    · have h := wpO_f c212 h
      refine g_aload_n (i := 0) (x := 36) hC (dX12_looks_215) rfl rfl ?_
      refine g_aload_n (i := 0) (x := 36) hC (dX12_looks_216) rfl rfl ?_
      refine g_getR (r := 54) hC flX12_70 (dX12_looks_217) rfl rfl rfl ?_
      refine g_iload (i := 6) (x := x6) hC (dX12_looks_220) rfl ?_
      obtain ⟨q12, h⟩ := wpO_g h
      refine g_iaload (n := 10) hC (dX12_looks_222) rfl q12 ?_
      refine g_i2l hC (dX12_looks_223) ?_
      have h := wpO_b h
      refine g_callVv ([.long ((M.1 54 x6.toNatClampNeg).toInt64)]) hC wvX12_280 (dX12_looks_224) rfl rfl (by omega) (Nat.le_of_ble_eq_true rfl) (cX12_tell_ok (by omega) ((M.1 54 x6.toNatClampNeg).toInt64) M h) (fun M224 h => ?_)
      refine g_iinc (x := x6) (v := (x6 + 1)) (lv2 := [(6, .int (x6 + 1)), (0, .ref 36), (1, .int x1)]) hC (dX12_looks_227) rfl rfl (by decide) rfl ?_
      refine g_goto (tgt := 209) hC (dX12_looks_230) (by decide) ?_
      refine g_sub (lv' := [(0, .ref 36), (1, .int x1), (6, .int (x6 + 1))]) [1, 2, 0] rfl ?_
      exact ih _ _ h
set_option maxHeartbeats 4000000 in
theorem cX12_looks_ok {E : zE} {d : Nat} (hd : 103 ≤ d) (x1 : Int32) (M : zM) {K : (Int32 × zM) → Prop} (h : wpO (fX12_looks x1 M) K) : CMi E d yX12_looks cX12_looks 9 (some .int) [.ref 36, .int x1] M (fun r N => K (r, N)) := by
  refine CMi.of (by decide) (Nat.le_of_ble_eq_true rfl) (fun Γ hC hr => ?_)
  have hC : Cx E Γ RX12 cX12_looks 9 d := hC
  show G E Γ 9 0 [(0, .ref 36), (1, .int x1)] [] M
  unfold fX12_looks at h
  refine g_aload_n (i := 0) (x := 36) hC (dX12_looks_0) rfl rfl ?_
  refine g_iconst (v := 0) hC (dX12_looks_1) kc_0 ?_
  refine g_putI hC fpX12_86 (dX12_looks_2) rfl rfl rfl rfl ?_
  refine g_nmM (fun M2 e_M2 => ?_)
  have h := wpO_n e_M2 h
  refine g_iload_n (i := 1) (x := x1) hC (dX12_looks_5) rfl rfl ?_
  refine g_iconst (v := 0) hC (dX12_looks_6) kc_0 ?_
  refine g_bipush (v := 10) hC (dX12_looks_7) kb_10 ?_
  refine g_callSi ([.int x1, .int 0, .int 10]) hC wsX12_95 (dX12_looks_9) rfl (by omega) (Nat.le_of_ble_eq_true rfl) (cX12_in_ok (by omega) x1 0 10 M2 (K := fun r => r = fX12_in x1 0 10) rfl) (fun r N q => ?_)
  obtain ⟨rfl, rfl⟩ := q
  refine g_if_ne (tgt := 24) hC (dX12_looks_12) (by decide) (fun c12 => ?_) (fun c12 => ?_)
  · have h := wpO_f c12 h
    refine g_aload_n (i := 0) (x := 36) hC (dX12_looks_24) rfl rfl ?_
    refine g_bipush (v := 6) hC (dX12_looks_25) kb_6 ?_
    refine g_callVv ([.int 6]) hC wvX12_150 (dX12_looks_27) rfl rfl (by omega) (Nat.le_of_ble_eq_true rfl) (cX12_beginText_ok (by omega) 6 M2 (K := fun r => r = fX12_beginText 6 M2) rfl) (fun N q => ?_)
    subst q
    refine g_nmM (fun M27 e_M27 => ?_)
    have h := wpO_n e_M27 h
    refine g_lconst (v := 0) hC (dX12_looks_30) kl_0 ?_
    refine g_lstore_n (i := 2) (lv2 := [(2, .long 0), (0, .ref 36), (1, .int x1)]) hC (dX12_looks_31) rfl (by decide) rfl ?_
    refine g_iconst (v := 0) hC (dX12_looks_32) kc_0 ?_
    refine g_istore (i := 4) (lv2 := [(4, .int 0), (2, .long 0), (0, .ref 36), (1, .int x1)]) hC (dX12_looks_33) (by decide) rfl ?_
    refine g_sub (lv' := [(0, .ref 36), (1, .int x1), (2, .long 0), (4, .int 0)]) [2, 3, 1, 0] rfl ?_
    refine wpO_bJ h (fun KL35 hKL35 h => ?_)
    refine lX12_looks_35 (K1 := KL35) hC (by omega) x1 (fun x2_78 M_78 h => ?_) _ _ _ _ h
    have h := hKL35 _ h
    have h := wpO_p h
    refine g_aload_n (i := 0) (x := 36) hC (dX12_looks_78) rfl rfl ?_
    refine g_callVi ([]) hC wvX12_157 (dX12_looks_79) rfl rfl (by omega) (Nat.le_of_ble_eq_true rfl) (cX12_wasRight_ok (by omega) M_78 (K := fun r => r = fX12_wasRight M_78) rfl) (fun r N q => ?_)
    obtain ⟨rfl, rfl⟩ : r = (fX12_wasRight M_78).1 ∧ N = (fX12_wasRight M_78).2 := ⟨congrArg Prod.fst q, congrArg Prod.snd q⟩
    refine g_nmM (fun M79 e_M79 => ?_)
    have h := wpO_n e_M79 h
    refine g_if_ne (tgt := 92) hC (dX12_looks_82) (by decide) (fun c82 => ?_) (fun c82 => ?_)
    · have h := wpO_f c82 h
      refine g_lload_n (i := 2) (x := x2_78) hC (dX12_looks_92) rfl rfl ?_
      refine g_lconst (v := 0) hC (dX12_looks_93) kl_0 ?_
      refine g_lcmp hC (dX12_looks_94) ?_
      refine g_if_ne (tgt := 101) hC (dX12_looks_95) (by decide) (fun c95 => ?_) (fun c95 => ?_)
      · have h := wpO_f c95 h
        refine g_lconst (v := 0) hC (dX12_looks_101) kl_0 ?_
        refine g_lstore (i := 4) (lv2 := [(4, .long 0), (0, .ref 36), (1, .int x1), (2, .long x2_78)]) hC (dX12_looks_102) (by decide) rfl ?_
        refine g_iconst (v := 0) hC (dX12_looks_104) kc_0 ?_
        refine g_istore (i := 6) (lv2 := [(6, .int 0), (4, .long 0), (0, .ref 36), (1, .int x1), (2, .long x2_78)]) hC (dX12_looks_105) (by decide) rfl ?_
        refine g_sub (lv' := [(0, .ref 36), (1, .int x1), (2, .long x2_78), (4, .long 0), (6, .int 0)]) [2, 3, 4, 1, 0] rfl ?_
        refine wpO_bJ h (fun KL107 hKL107 h => ?_)
        refine lX12_looks_107 (K1 := KL107) hC (by omega) x1 x2_78 (fun x4_199 M_199 h => ?_) _ _ _ _ h
        have h := hKL107 _ h
        have h := wpO_p h
        refine g_aload_n (i := 0) (x := 36) hC (dX12_looks_199) rfl rfl ?_
        refine g_lload (i := 4) (x := x4_199) hC (dX12_looks_200) rfl ?_
        refine g_lload_n (i := 2) (x := x2_78) hC (dX12_looks_202) rfl rfl ?_
        have h := wpO_b h
        refine g_callVv ([.long x4_199, .long x2_78]) hC wvX12_330 (dX12_looks_203) rfl rfl (by omega) (Nat.le_of_ble_eq_true rfl) (cX12_tellPart_ok (by omega) x4_199 x2_78 M_199 h) (fun M203 h => ?_)
        refine g_iconst (v := 0) hC (dX12_looks_206) kc_0 ?_
        refine g_istore (i := 6) (lv2 := [(6, .int 0), (0, .ref 36), (1, .int x1), (2, .long x2_78), (4, .long x4_199)]) hC (dX12_looks_207) (by decide) rfl ?_
        refine g_sub (lv' := [(0, .ref 36), (1, .int x1), (6, .int 0)]) [1, 2, 0] rfl ?_
        refine wpO_bJ h (fun KL209 hKL209 h => ?_)
        refine lX12_looks_209 (K1 := KL209) hC (by omega) x1 (fun M_233 h => ?_) _ _ _ h
        have h := hKL209 _ h
        refine g_iconst (v := 0) hC (dX12_looks_233) kc_0 ?_
        refine g_ireturn hC hr (dX12_looks_234) ?_
        exact wpO_s h
      · have h := wpO_t c95 h
        refine g_bipush (v := (-100)) hC (dX12_looks_98) kb_m100 ?_
        refine g_ireturn hC hr (dX12_looks_100) ?_
        exact wpO_s h
    · have h := wpO_t c82 h
      refine g_iconst (v := (-1)) hC (dX12_looks_85) kc_m1 ?_
      refine g_aload_n (i := 0) (x := 36) hC (dX12_looks_86) rfl rfl ?_
      refine g_getI hC flX12_117 (dX12_looks_87) rfl rfl ?_
      refine g_isub hC (dX12_looks_90) ?_
      refine g_ireturn hC hr (dX12_looks_91) ?_
      exact wpO_s h
  · have h := wpO_t c12 h
    refine g_aload_n (i := 0) (x := 36) hC (dX12_looks_15) rfl rfl ?_
    refine g_iconst (v := 0) hC (dX12_looks_16) kc_0 ?_
    refine g_putI hC fpX12_102 (dX12_looks_17) rfl rfl rfl rfl ?_
    refine g_nmM (fun M17 e_M17 => ?_)
    have h := wpO_n e_M17 h
    refine g_sipush (v := (-200)) hC (dX12_looks_20) ks_m200 ?_
    refine g_ireturn hC hr (dX12_looks_23) ?_
    exact wpO_s h
/-! LostByStateModel.strays(III)I -/
theorem dX12_strays_0 : decode cX12_strays 0 = .ok (.aload_n 0, 1) := by decide +kernel
theorem dX12_strays_1 : decode cX12_strays 1 = .ok (.iconst 0, 1) := by decide +kernel
theorem dX12_strays_2 : decode cX12_strays 2 = .ok (.putfield 86, 3) := by decide +kernel
theorem dX12_strays_5 : decode cX12_strays 5 = .ok (.iload_n 1, 1) := by decide +kernel
theorem dX12_strays_6 : decode cX12_strays 6 = .ok (.iconst 0, 1) := by decide +kernel
theorem dX12_strays_7 : decode cX12_strays 7 = .ok (.iconst 5, 1) := by decide +kernel
theorem dX12_strays_8 : decode cX12_strays 8 = .ok (.invokestatic 95, 3) := by decide +kernel
theorem dX12_strays_11 : decode cX12_strays 11 = .ok (.ifCond .eq 22, 3) := by decide +kernel
theorem dX12_strays_14 : decode cX12_strays 14 = .ok (.iload_n 2, 1) := by decide +kernel
theorem dX12_strays_15 : decode cX12_strays 15 = .ok (.iconst 0, 1) := by decide +kernel
theorem dX12_strays_16 : decode cX12_strays 16 = .ok (.iconst 5, 1) := by decide +kernel
theorem dX12_strays_17 : decode cX12_strays 17 = .ok (.invokestatic 95, 3) := by decide +kernel
theorem dX12_strays_20 : decode cX12_strays 20 = .ok (.ifCond .eq 13, 3) := by decide +kernel
theorem dX12_strays_23 : decode cX12_strays 23 = .ok (.iload_n 3, 1) := by decide +kernel
theorem dX12_strays_24 : decode cX12_strays 24 = .ok (.iconst 0, 1) := by decide +kernel
theorem dX12_strays_25 : decode cX12_strays 25 = .ok (.bipush 20, 2) := by decide +kernel
theorem dX12_strays_27 : decode cX12_strays 27 = .ok (.invokestatic 95, 3) := by decide +kernel
theorem dX12_strays_30 : decode cX12_strays 30 = .ok (.ifCond .ne 5, 3) := by decide +kernel
theorem dX12_strays_33 : decode cX12_strays 33 = .ok (.iconst (-1), 1) := by decide +kernel
theorem dX12_strays_34 : decode cX12_strays 34 = .ok (.ireturn, 1) := by decide +kernel
theorem dX12_strays_35 : decode cX12_strays 35 = .ok (.iconst 0, 1) := by decide +kernel
theorem dX12_strays_36 : decode cX12_strays 36 = .ok (.istore 4, 2) := by decide +kernel
theorem dX12_strays_38 : decode cX12_strays 38 = .ok (.iload 4, 2) := by decide +kernel
theorem dX12_strays_40 : decode cX12_strays 40 = .ok (.bipush 6, 2) := by decide +kernel
theorem dX12_strays_42 : decode cX12_strays 42 = .ok (.if_icmp .ge 27, 3) := by decide +kernel
theorem dX12_strays_45 : decode cX12_strays 45 = .ok (.aload_n 0, 1) := by decide +kernel
theorem dX12_strays_46 : decode cX12_strays 46 = .ok (.getfield 67, 3) := by decide +kernel
theorem dX12_strays_49 : decode cX12_strays 49 = .ok (.iload 4, 2) := by decide +kernel
theorem dX12_strays_51 : decode cX12_strays 51 = .ok (.iload 4, 2) := by decide +kernel
theorem dX12_strays_53 : decode cX12_strays 53 = .ok (.iload_n 1, 1) := by decide +kernel
theorem dX12_strays_54 : decode cX12_strays 54 = .ok (.if_icmp .ne 7, 3) := by decide +kernel
theorem dX12_strays_57 : decode cX12_strays 57 = .ok (.lconst 1, 1) := by decide +kernel
theorem dX12_strays_58 : decode cX12_strays 58 = .ok (.goto 4, 3) := by decide +kernel
theorem dX12_strays_61 : decode cX12_strays 61 = .ok (.lconst 0, 1) := by decide +kernel
theorem dX12_strays_62 : decode cX12_strays 62 = .ok (.lastore, 1) := by decide +kernel
theorem dX12_strays_63 : decode cX12_strays 63 = .ok (.iinc 4 1, 3) := by decide +kernel
theorem dX12_strays_66 : decode cX12_strays 66 = .ok (.goto (-28), 3) := by decide +kernel
theorem dX12_strays_69 : decode cX12_strays 69 = .ok (.iconst 0, 1) := by decide +kernel
theorem dX12_strays_70 : decode cX12_strays 70 = .ok (.istore 4, 2) := by decide +kernel
theorem dX12_strays_72 : decode cX12_strays 72 = .ok (.iload 4, 2) := by decide +kernel
theorem dX12_strays_74 : decode cX12_strays 74 = .ok (.iload_n 3, 1) := by decide +kernel
theorem dX12_strays_75 : decode cX12_strays 75 = .ok (.if_icmp .ge 90, 3) := by decide +kernel
theorem dX12_strays_78 : decode cX12_strays 78 = .ok (.iconst 0, 1) := by decide +kernel
theorem dX12_strays_79 : decode cX12_strays 79 = .ok (.istore 5, 2) := by decide +kernel
theorem dX12_strays_81 : decode cX12_strays 81 = .ok (.iload 5, 2) := by decide +kernel
theorem dX12_strays_83 : decode cX12_strays 83 = .ok (.bipush 6, 2) := by decide +kernel
theorem dX12_strays_85 : decode cX12_strays 85 = .ok (.if_icmp .ge 44, 3) := by decide +kernel
theorem dX12_strays_88 : decode cX12_strays 88 = .ok (.aload_n 0, 1) := by decide +kernel
theorem dX12_strays_89 : decode cX12_strays 89 = .ok (.getfield 73, 3) := by decide +kernel
theorem dX12_strays_92 : decode cX12_strays 92 = .ok (.iload 5, 2) := by decide +kernel
theorem dX12_strays_94 : decode cX12_strays 94 = .ok (.aload_n 0, 1) := by decide +kernel
theorem dX12_strays_95 : decode cX12_strays 95 = .ok (.getfield 67, 3) := by decide +kernel
theorem dX12_strays_98 : decode cX12_strays 98 = .ok (.iload 5, 2) := by decide +kernel
theorem dX12_strays_100 : decode cX12_strays 100 = .ok (.iconst 1, 1) := by decide +kernel
theorem dX12_strays_101 : decode cX12_strays 101 = .ok (.iadd, 1) := by decide +kernel
theorem dX12_strays_102 : decode cX12_strays 102 = .ok (.bipush 6, 2) := by decide +kernel
theorem dX12_strays_104 : decode cX12_strays 104 = .ok (.irem, 1) := by decide +kernel
theorem dX12_strays_105 : decode cX12_strays 105 = .ok (.laload, 1) := by decide +kernel
theorem dX12_strays_106 : decode cX12_strays 106 = .ok (.aload_n 0, 1) := by decide +kernel
theorem dX12_strays_107 : decode cX12_strays 107 = .ok (.getfield 67, 3) := by decide +kernel
theorem dX12_strays_110 : decode cX12_strays 110 = .ok (.iload 5, 2) := by decide +kernel
theorem dX12_strays_112 : decode cX12_strays 112 = .ok (.bipush 6, 2) := by decide +kernel
theorem dX12_strays_114 : decode cX12_strays 114 = .ok (.iadd, 1) := by decide +kernel
theorem dX12_strays_115 : decode cX12_strays 115 = .ok (.iconst 1, 1) := by decide +kernel
theorem dX12_strays_116 : decode cX12_strays 116 = .ok (.isub, 1) := by decide +kernel
theorem dX12_strays_117 : decode cX12_strays 117 = .ok (.bipush 6, 2) := by decide +kernel
theorem dX12_strays_119 : decode cX12_strays 119 = .ok (.irem, 1) := by decide +kernel
theorem dX12_strays_120 : decode cX12_strays 120 = .ok (.laload, 1) := by decide +kernel
theorem dX12_strays_121 : decode cX12_strays 121 = .ok (.ladd, 1) := by decide +kernel
theorem dX12_strays_122 : decode cX12_strays 122 = .ok (.lastore, 1) := by decide +kernel
theorem dX12_strays_123 : decode cX12_strays 123 = .ok (.iinc 5 1, 3) := by decide +kernel
theorem dX12_strays_126 : decode cX12_strays 126 = .ok (.goto (-45), 3) := by decide +kernel
theorem dX12_strays_129 : decode cX12_strays 129 = .ok (.iconst 0, 1) := by decide +kernel
theorem dX12_strays_130 : decode cX12_strays 130 = .ok (.istore 5, 2) := by decide +kernel
theorem dX12_strays_132 : decode cX12_strays 132 = .ok (.iload 5, 2) := by decide +kernel
theorem dX12_strays_134 : decode cX12_strays 134 = .ok (.bipush 6, 2) := by decide +kernel
theorem dX12_strays_136 : decode cX12_strays 136 = .ok (.if_icmp .ge 23, 3) := by decide +kernel
theorem dX12_strays_139 : decode cX12_strays 139 = .ok (.aload_n 0, 1) := by decide +kernel
theorem dX12_strays_140 : decode cX12_strays 140 = .ok (.getfield 67, 3) := by decide +kernel
theorem dX12_strays_143 : decode cX12_strays 143 = .ok (.iload 5, 2) := by decide +kernel
theorem dX12_strays_145 : decode cX12_strays 145 = .ok (.aload_n 0, 1) := by decide +kernel
theorem dX12_strays_146 : decode cX12_strays 146 = .ok (.getfield 73, 3) := by decide +kernel
theorem dX12_strays_149 : decode cX12_strays 149 = .ok (.iload 5, 2) := by decide +kernel
theorem dX12_strays_151 : decode cX12_strays 151 = .ok (.laload, 1) := by decide +kernel
theorem dX12_strays_152 : decode cX12_strays 152 = .ok (.lastore, 1) := by decide +kernel
theorem dX12_strays_153 : decode cX12_strays 153 = .ok (.iinc 5 1, 3) := by decide +kernel
theorem dX12_strays_156 : decode cX12_strays 156 = .ok (.goto (-24), 3) := by decide +kernel
theorem dX12_strays_159 : decode cX12_strays 159 = .ok (.iinc 4 1, 3) := by decide +kernel
theorem dX12_strays_162 : decode cX12_strays 162 = .ok (.goto (-90), 3) := by decide +kernel
theorem dX12_strays_165 : decode cX12_strays 165 = .ok (.aload_n 0, 1) := by decide +kernel
theorem dX12_strays_166 : decode cX12_strays 166 = .ok (.aload_n 0, 1) := by decide +kernel
theorem dX12_strays_167 : decode cX12_strays 167 = .ok (.getfield 67, 3) := by decide +kernel
theorem dX12_strays_170 : decode cX12_strays 170 = .ok (.iload_n 2, 1) := by decide +kernel
theorem dX12_strays_171 : decode cX12_strays 171 = .ok (.laload, 1) := by decide +kernel
theorem dX12_strays_172 : decode cX12_strays 172 = .ok (.lconst 1, 1) := by decide +kernel
theorem dX12_strays_173 : decode cX12_strays 173 = .ok (.iload_n 3, 1) := by decide +kernel
theorem dX12_strays_174 : decode cX12_strays 174 = .ok (.lshl, 1) := by decide +kernel
theorem dX12_strays_175 : decode cX12_strays 175 = .ok (.invokevirtual 330, 3) := by decide +kernel
theorem dX12_strays_178 : decode cX12_strays 178 = .ok (.iconst 0, 1) := by decide +kernel
theorem dX12_strays_179 : decode cX12_strays 179 = .ok (.ireturn, 1) := by decide +kernel
def fX12_strays_L38 (x1 : Int32) (x2 : Int32) (x3 : Int32) : Nat → Int32 → zM → Option zM
  | 0, _, _ => none
  | n + 1, x4, M => if 6 ≤ x4 then (
    some M)
    else (
    zlet (if x4 = x1 then (
    1)
    else (
    0)) fun (s0_62 : Int64) =>
    if zin x4 6 then (
    zlet (zSJ M 53 x4.toNatClampNeg s0_62) fun (M62 : zM) =>
    fX12_strays_L38 x1 x2 x3 n (x4 + 1) M62) else none)
def fX12_strays_L81 (x2 : Int32) (x3 : Int32) (x4 : Int32) : Nat → Int32 → zM → Option zM
  | 0, _, _ => none
  | n + 1, x5, M => if 6 ≤ x5 then (
    some M)
    else (
    if zin (zrem (x5 + 1) 6) 6 then (
    if zin (zrem ((x5 + 6) - 1) 6) 6 then (
    if zin x5 6 then (
    zlet (zSJ M 55 x5.toNatClampNeg ((M.2.1 53 (zrem (x5 + 1) 6).toNatClampNeg) + (M.2.1 53 (zrem ((x5 + 6) - 1) 6).toNatClampNeg))) fun (M122 : zM) =>
    fX12_strays_L81 x2 x3 x4 n (x5 + 1) M122) else none) else none) else none)
def fX12_strays_L132 (x2 : Int32) (x3 : Int32) (x4 : Int32) : Nat → Int32 → zM → Option zM
  | 0, _, _ => none
  | n + 1, x5, M => if 6 ≤ x5 then (
    some M)
    else (
    if zin x5 6 then (
    zlet (zSJ M 53 x5.toNatClampNeg (M.2.1 55 x5.toNatClampNeg)) fun (M152 : zM) =>
    fX12_strays_L132 x2 x3 x4 n (x5 + 1) M152) else none)
def fX12_strays_L72 (x2 : Int32) (x3 : Int32) : Nat → Int32 → zM → Option zM
  | 0, _, _ => none
  | n + 1, x4, M => if x3 ≤ x4 then (
    some M)
    else (
    (fX12_strays_L81 x2 x3 x4 4000 0 M).bind fun (M_129 : zM) =>
    (fX12_strays_L132 x2 x3 x4 4000 0 M_129).bind fun (M_159 : zM) =>
    fX12_strays_L72 x2 x3 n (x4 + 1) M_159)
def fX12_strays (x1 : Int32) (x2 : Int32) (x3 : Int32) (M : zM) : Option (Int32 × zM) := zlet (zSI M 36 12 0) fun (M2 : zM) =>
  if (fX12_in x1 0 5) = 0 then (
  some ((-1), M2))
  else (
  if (fX12_in x2 0 5) = 0 then (
  some ((-1), M2))
  else (
  if (fX12_in x3 0 20) = 0 then (
  some ((-1), M2))
  else (
  (fX12_strays_L38 x1 x2 x3 4000 0 M2).bind fun (M_69 : zM) =>
  (fX12_strays_L72 x2 x3 4000 0 M_69).bind fun (M_165 : zM) =>
  if zin x2 6 then (
  (fX12_tellPart (M_165.2.1 53 x2.toNatClampNeg) (zlshl 1 x3) M_165).bind fun (M175 : zM) =>
  some (0, M175)) else none)))
set_option maxHeartbeats 4000000 in
theorem lX12_strays_38 {E : zE} {Γ : zT} {d : Nat} {K1 : zM → Prop} (hC : Cx E Γ RX12 cX12_strays 6 d) (hd : 103 ≤ d) (x1 : Int32) (x2 : Int32) (x3 : Int32) (hx : ∀ (M_69 : zM), K1 M_69 → G E Γ 6 69 [(0, .ref 36), (2, .int x2), (3, .int x3)] [] M_69) :
    ∀ (n : Nat) (x4 : Int32) (M : zM), wpO (fX12_strays_L38 x1 x2 x3 n x4 M) K1 → G E Γ 6 38 [(0, .ref 36), (1, .int x1), (2, .int x2), (3, .int x3), (4, .int x4)] [] M := by
  intro n
  induction n with
  | zero =>
    intro x4 M h
    exact (wpO_0 h).elim
  | succ n ih =>
    intro x4 M h
    rw [fX12_strays_L38.eq_2] at h
    refine g_iload (i := 4) (x := x4) hC (dX12_strays_38) rfl ?_
    refine g_bipush (v := 6) hC (dX12_strays_40) kb_6 ?_
    refine g_icmp_ge (tgt := 69) hC (dX12_strays_42) (by decide) (fun c42 => ?_) (fun c42 => ?_)
    · have h := wpO_t c42 h
      refine g_sub (lv' := [(0, .ref 36), (2, .int x2), (3, .int x3)]) [0, 2, 3] rfl ?_
      exact hx _ (wpO_s h)
    · have h := wpO_f c42 h
      refine g_aload_n (i := 0) (x := 36) hC (dX12_strays_45) rfl rfl ?_
      refine g_getR (r := 53) hC flX12_67 (dX12_strays_46) rfl rfl rfl ?_
      refine g_iload (i := 4) (x := x4) hC (dX12_strays_49) rfl ?_
      refine g_iload (i := 4) (x := x4) hC (dX12_strays_51) rfl ?_
      refine g_iload_n (i := 1) (x := x1) hC (dX12_strays_53) rfl rfl ?_
      obtain ⟨s0_62, e_s0_62, h⟩ := wpO_l h
      have hJ4 : G E Γ 6 62 [(0, .ref 36), (1, .int x1), (2, .int x2), (3, .int x3), (4, .int x4)] [.long s0_62, .int x4, .ref 53] M := by
        obtain ⟨q5, h⟩ := wpO_g h
        refine g_lastore (n := 6) hC (dX12_strays_62) rfl q5 ?_
        refine g_nmM (fun M62 e_M62 => ?_)
        have h := wpO_n e_M62 h
        refine g_iinc (x := x4) (v := (x4 + 1)) (lv2 := [(4, .int (x4 + 1)), (0, .ref 36), (1, .int x1), (2, .int x2), (3, .int x3)]) hC (dX12_strays_63) rfl rfl (by decide) rfl ?_
        refine g_goto (tgt := 38) hC (dX12_strays_66) (by decide) ?_
        refine g_sub (lv' := [(0, .ref 36), (1, .int x1), (2, .int x2), (3, .int x3), (4, .int (x4 + 1))]) [1, 2, 3, 4, 0] rfl ?_
        exact ih _ _ h
      refine g_icmp_ne (tgt := 61) hC (dX12_strays_54) (by decide) (fun c54 => ?_) (fun c54 => ?_)
      · rw [if_neg c54] at e_s0_62
        refine g_lconst (v := 0) hC (dX12_strays_61) kl_0 ?_
        subst e_s0_62
        exact hJ4
      · rw [if_pos c54] at e_s0_62
        refine g_lconst (v := 1) hC (dX12_strays_57) kl_1 ?_
        refine g_goto (tgt := 62) hC (dX12_strays_58) (by decide) ?_
        subst e_s0_62
        exact hJ4
set_option maxHeartbeats 4000000 in
theorem lX12_strays_81 {E : zE} {Γ : zT} {d : Nat} {K1 : zM → Prop} (hC : Cx E Γ RX12 cX12_strays 6 d) (hd : 103 ≤ d) (x2 : Int32) (x3 : Int32) (x4 : Int32) (hx : ∀ (M_129 : zM), K1 M_129 → G E Γ 6 129 [(0, .ref 36), (2, .int x2), (3, .int x3), (4, .int x4)] [] M_129) :
    ∀ (n : Nat) (x5 : Int32) (M : zM), wpO (fX12_strays_L81 x2 x3 x4 n x5 M) K1 → G E Γ 6 81 [(0, .ref 36), (2, .int x2), (3, .int x3), (4, .int x4), (5, .int x5)] [] M := by
  intro n
  induction n with
  | zero =>
    intro x5 M h
    exact (wpO_0 h).elim
  | succ n ih =>
    intro x5 M h
    rw [fX12_strays_L81.eq_2] at h
    refine g_iload (i := 5) (x := x5) hC (dX12_strays_81) rfl ?_
    refine g_bipush (v := 6) hC (dX12_strays_83) kb_6 ?_
    refine g_icmp_ge (tgt := 129) hC (dX12_strays_85) (by decide) (fun c85 => ?_) (fun c85 => ?_)
    · have h := wpO_t c85 h
      refine g_sub (lv' := [(0, .ref 36), (2, .int x2), (3, .int x3), (4, .int x4)]) [0, 1, 2, 3] rfl ?_
      exact hx _ (wpO_s h)
    · have h := wpO_f c85 h
      refine g_aload_n (i := 0) (x := 36) hC (dX12_strays_88) rfl rfl ?_
      refine g_getR (r := 55) hC flX12_73 (dX12_strays_89) rfl rfl rfl ?_
      refine g_iload (i := 5) (x := x5) hC (dX12_strays_92) rfl ?_
      refine g_aload_n (i := 0) (x := 36) hC (dX12_strays_94) rfl rfl ?_
      refine g_getR (r := 53) hC flX12_67 (dX12_strays_95) rfl rfl rfl ?_
      refine g_iload (i := 5) (x := x5) hC (dX12_strays_98) rfl ?_
      refine g_iconst (v := 1) hC (dX12_strays_100) kc_1 ?_
      refine g_iadd hC (dX12_strays_101) ?_
      refine g_bipush (v := 6) hC (dX12_strays_102) kb_6 ?_
      refine g_irem hC (dX12_strays_104) (by decide) ?_
      obtain ⟨q6, h⟩ := wpO_g h
      refine g_laload (n := 6) hC (dX12_strays_105) rfl q6 ?_
      refine g_aload_n (i := 0) (x := 36) hC (dX12_strays_106) rfl rfl ?_
      refine g_getR (r := 53) hC flX12_67 (dX12_strays_107) rfl rfl rfl ?_
      refine g_iload (i := 5) (x := x5) hC (dX12_strays_110) rfl ?_
      refine g_bipush (v := 6) hC (dX12_strays_112) kb_6 ?_
      refine g_iadd hC (dX12_strays_114) ?_
      refine g_iconst (v := 1) hC (dX12_strays_115) kc_1 ?_
      refine g_isub hC (dX12_strays_116) ?_
      refine g_bipush (v := 6) hC (dX12_strays_117) kb_6 ?_
      refine g_irem hC (dX12_strays_119) (by decide) ?_
      obtain ⟨q7, h⟩ := wpO_g h
      refine g_laload (n := 6) hC (dX12_strays_120) rfl q7 ?_
      refine g_ladd hC (dX12_strays_121) ?_
      obtain ⟨q8, h⟩ := wpO_g h
      refine g_lastore (n := 6) hC (dX12_strays_122) rfl q8 ?_
      refine g_nmM (fun M122 e_M122 => ?_)
      have h := wpO_n e_M122 h
      refine g_iinc (x := x5) (v := (x5 + 1)) (lv2 := [(5, .int (x5 + 1)), (0, .ref 36), (2, .int x2), (3, .int x3), (4, .int x4)]) hC (dX12_strays_123) rfl rfl (by decide) rfl ?_
      refine g_goto (tgt := 81) hC (dX12_strays_126) (by decide) ?_
      refine g_sub (lv' := [(0, .ref 36), (2, .int x2), (3, .int x3), (4, .int x4), (5, .int (x5 + 1))]) [1, 2, 3, 4, 0] rfl ?_
      exact ih _ _ h
set_option maxHeartbeats 4000000 in
theorem lX12_strays_132 {E : zE} {Γ : zT} {d : Nat} {K1 : zM → Prop} (hC : Cx E Γ RX12 cX12_strays 6 d) (hd : 103 ≤ d) (x2 : Int32) (x3 : Int32) (x4 : Int32) (hx : ∀ (M_159 : zM), K1 M_159 → G E Γ 6 159 [(0, .ref 36), (2, .int x2), (3, .int x3), (4, .int x4)] [] M_159) :
    ∀ (n : Nat) (x5 : Int32) (M : zM), wpO (fX12_strays_L132 x2 x3 x4 n x5 M) K1 → G E Γ 6 132 [(0, .ref 36), (2, .int x2), (3, .int x3), (4, .int x4), (5, .int x5)] [] M := by
  intro n
  induction n with
  | zero =>
    intro x5 M h
    exact (wpO_0 h).elim
  | succ n ih =>
    intro x5 M h
    rw [fX12_strays_L132.eq_2] at h
    refine g_iload (i := 5) (x := x5) hC (dX12_strays_132) rfl ?_
    refine g_bipush (v := 6) hC (dX12_strays_134) kb_6 ?_
    refine g_icmp_ge (tgt := 159) hC (dX12_strays_136) (by decide) (fun c136 => ?_) (fun c136 => ?_)
    · have h := wpO_t c136 h
      refine g_sub (lv' := [(0, .ref 36), (2, .int x2), (3, .int x3), (4, .int x4)]) [0, 1, 2, 3] rfl ?_
      exact hx _ (wpO_s h)
    · have h := wpO_f c136 h
      refine g_aload_n (i := 0) (x := 36) hC (dX12_strays_139) rfl rfl ?_
      refine g_getR (r := 53) hC flX12_67 (dX12_strays_140) rfl rfl rfl ?_
      refine g_iload (i := 5) (x := x5) hC (dX12_strays_143) rfl ?_
      refine g_aload_n (i := 0) (x := 36) hC (dX12_strays_145) rfl rfl ?_
      refine g_getR (r := 55) hC flX12_73 (dX12_strays_146) rfl rfl rfl ?_
      refine g_iload (i := 5) (x := x5) hC (dX12_strays_149) rfl ?_
      obtain ⟨q9, h⟩ := wpO_g h
      refine g_laload (n := 6) hC (dX12_strays_151) rfl q9 ?_
      refine g_lastore (n := 6) hC (dX12_strays_152) rfl q9 ?_
      refine g_nmM (fun M152 e_M152 => ?_)
      have h := wpO_n e_M152 h
      refine g_iinc (x := x5) (v := (x5 + 1)) (lv2 := [(5, .int (x5 + 1)), (0, .ref 36), (2, .int x2), (3, .int x3), (4, .int x4)]) hC (dX12_strays_153) rfl rfl (by decide) rfl ?_
      refine g_goto (tgt := 132) hC (dX12_strays_156) (by decide) ?_
      refine g_sub (lv' := [(0, .ref 36), (2, .int x2), (3, .int x3), (4, .int x4), (5, .int (x5 + 1))]) [1, 2, 3, 4, 0] rfl ?_
      exact ih _ _ h
set_option maxHeartbeats 4000000 in
theorem lX12_strays_72 {E : zE} {Γ : zT} {d : Nat} {K1 : zM → Prop} (hC : Cx E Γ RX12 cX12_strays 6 d) (hd : 103 ≤ d) (x2 : Int32) (x3 : Int32) (hx : ∀ (M_165 : zM), K1 M_165 → G E Γ 6 165 [(0, .ref 36), (2, .int x2), (3, .int x3)] [] M_165) :
    ∀ (n : Nat) (x4 : Int32) (M : zM), wpO (fX12_strays_L72 x2 x3 n x4 M) K1 → G E Γ 6 72 [(0, .ref 36), (2, .int x2), (3, .int x3), (4, .int x4)] [] M := by
  intro n
  induction n with
  | zero =>
    intro x4 M h
    exact (wpO_0 h).elim
  | succ n ih =>
    intro x4 M h
    rw [fX12_strays_L72.eq_2] at h
    refine g_iload (i := 4) (x := x4) hC (dX12_strays_72) rfl ?_
    refine g_iload_n (i := 3) (x := x3) hC (dX12_strays_74) rfl rfl ?_
    refine g_icmp_ge (tgt := 165) hC (dX12_strays_75) (by decide) (fun c75 => ?_) (fun c75 => ?_)
    · have h := wpO_t c75 h
      refine g_sub (lv' := [(0, .ref 36), (2, .int x2), (3, .int x3)]) [0, 1, 2] rfl ?_
      exact hx _ (wpO_s h)
    · have h := wpO_f c75 h
      refine g_iconst (v := 0) hC (dX12_strays_78) kc_0 ?_
      refine g_istore (i := 5) (lv2 := [(5, .int 0), (0, .ref 36), (2, .int x2), (3, .int x3), (4, .int x4)]) hC (dX12_strays_79) (by decide) rfl ?_
      refine g_sub (lv' := [(0, .ref 36), (2, .int x2), (3, .int x3), (4, .int x4), (5, .int 0)]) [1, 2, 3, 4, 0] rfl ?_
      refine wpO_bJ h (fun KL81 hKL81 h => ?_)
      refine lX12_strays_81 (K1 := KL81) hC (by omega) x2 x3 x4 (fun M_129 h => ?_) _ _ _ h
      have h := hKL81 _ h
      refine g_iconst (v := 0) hC (dX12_strays_129) kc_0 ?_
      refine g_istore (i := 5) (lv2 := [(5, .int 0), (0, .ref 36), (2, .int x2), (3, .int x3), (4, .int x4)]) hC (dX12_strays_130) (by decide) rfl ?_
      refine g_sub (lv' := [(0, .ref 36), (2, .int x2), (3, .int x3), (4, .int x4), (5, .int 0)]) [1, 2, 3, 4, 0] rfl ?_
      refine wpO_bJ h (fun KL132 hKL132 h => ?_)
      refine lX12_strays_132 (K1 := KL132) hC (by omega) x2 x3 x4 (fun M_159 h => ?_) _ _ _ h
      have h := hKL132 _ h
      refine g_iinc (x := x4) (v := (x4 + 1)) (lv2 := [(4, .int (x4 + 1)), (0, .ref 36), (2, .int x2), (3, .int x3)]) hC (dX12_strays_159) rfl rfl (by decide) rfl ?_
      refine g_goto (tgt := 72) hC (dX12_strays_162) (by decide) ?_
      refine g_sub (lv' := [(0, .ref 36), (2, .int x2), (3, .int x3), (4, .int (x4 + 1))]) [1, 2, 3, 0] rfl ?_
      exact ih _ _ h
set_option maxHeartbeats 4000000 in
theorem cX12_strays_ok {E : zE} {d : Nat} (hd : 103 ≤ d) (x1 : Int32) (x2 : Int32) (x3 : Int32) (M : zM) {K : (Int32 × zM) → Prop} (h : wpO (fX12_strays x1 x2 x3 M) K) : CMi E d yX12_strays cX12_strays 6 (some .int) [.ref 36, .int x1, .int x2, .int x3] M (fun r N => K (r, N)) := by
  refine CMi.of (by decide) (Nat.le_of_ble_eq_true rfl) (fun Γ hC hr => ?_)
  have hC : Cx E Γ RX12 cX12_strays 6 d := hC
  show G E Γ 6 0 [(0, .ref 36), (1, .int x1), (2, .int x2), (3, .int x3)] [] M
  unfold fX12_strays at h
  refine g_aload_n (i := 0) (x := 36) hC (dX12_strays_0) rfl rfl ?_
  refine g_iconst (v := 0) hC (dX12_strays_1) kc_0 ?_
  refine g_putI hC fpX12_86 (dX12_strays_2) rfl rfl rfl rfl ?_
  refine g_nmM (fun M2 e_M2 => ?_)
  have h := wpO_n e_M2 h
  refine g_iload_n (i := 1) (x := x1) hC (dX12_strays_5) rfl rfl ?_
  refine g_iconst (v := 0) hC (dX12_strays_6) kc_0 ?_
  refine g_iconst (v := 5) hC (dX12_strays_7) kc_5 ?_
  refine g_callSi ([.int x1, .int 0, .int 5]) hC wsX12_95 (dX12_strays_8) rfl (by omega) (Nat.le_of_ble_eq_true rfl) (cX12_in_ok (by omega) x1 0 5 M2 (K := fun r => r = fX12_in x1 0 5) rfl) (fun r N q => ?_)
  obtain ⟨rfl, rfl⟩ := q
  refine g_if_eq (tgt := 33) hC (dX12_strays_11) (by decide) (fun c11 => ?_) (fun c11 => ?_)
  · have h := wpO_t c11 h
    refine g_iconst (v := (-1)) hC (dX12_strays_33) kc_m1 ?_
    refine g_ireturn hC hr (dX12_strays_34) ?_
    exact wpO_s h
  · have h := wpO_f c11 h
    refine g_iload_n (i := 2) (x := x2) hC (dX12_strays_14) rfl rfl ?_
    refine g_iconst (v := 0) hC (dX12_strays_15) kc_0 ?_
    refine g_iconst (v := 5) hC (dX12_strays_16) kc_5 ?_
    refine g_callSi ([.int x2, .int 0, .int 5]) hC wsX12_95 (dX12_strays_17) rfl (by omega) (Nat.le_of_ble_eq_true rfl) (cX12_in_ok (by omega) x2 0 5 M2 (K := fun r => r = fX12_in x2 0 5) rfl) (fun r N q => ?_)
    obtain ⟨rfl, rfl⟩ := q
    refine g_if_eq (tgt := 33) hC (dX12_strays_20) (by decide) (fun c20 => ?_) (fun c20 => ?_)
    · have h := wpO_t c20 h
      refine g_iconst (v := (-1)) hC (dX12_strays_33) kc_m1 ?_
      refine g_ireturn hC hr (dX12_strays_34) ?_
      exact wpO_s h
    · have h := wpO_f c20 h
      refine g_iload_n (i := 3) (x := x3) hC (dX12_strays_23) rfl rfl ?_
      refine g_iconst (v := 0) hC (dX12_strays_24) kc_0 ?_
      refine g_bipush (v := 20) hC (dX12_strays_25) kb_20 ?_
      refine g_callSi ([.int x3, .int 0, .int 20]) hC wsX12_95 (dX12_strays_27) rfl (by omega) (Nat.le_of_ble_eq_true rfl) (cX12_in_ok (by omega) x3 0 20 M2 (K := fun r => r = fX12_in x3 0 20) rfl) (fun r N q => ?_)
      obtain ⟨rfl, rfl⟩ := q
      refine g_if_ne (tgt := 35) hC (dX12_strays_30) (by decide) (fun c30 => ?_) (fun c30 => ?_)
      · have h := wpO_f c30 h
        refine g_iconst (v := 0) hC (dX12_strays_35) kc_0 ?_
        refine g_istore (i := 4) (lv2 := [(4, .int 0), (0, .ref 36), (1, .int x1), (2, .int x2), (3, .int x3)]) hC (dX12_strays_36) (by decide) rfl ?_
        refine g_sub (lv' := [(0, .ref 36), (1, .int x1), (2, .int x2), (3, .int x3), (4, .int 0)]) [1, 2, 3, 4, 0] rfl ?_
        refine wpO_bJ h (fun KL38 hKL38 h => ?_)
        refine lX12_strays_38 (K1 := KL38) hC (by omega) x1 x2 x3 (fun M_69 h => ?_) _ _ _ h
        have h := hKL38 _ h
        refine g_iconst (v := 0) hC (dX12_strays_69) kc_0 ?_
        refine g_istore (i := 4) (lv2 := [(4, .int 0), (0, .ref 36), (2, .int x2), (3, .int x3)]) hC (dX12_strays_70) (by decide) rfl ?_
        refine g_sub (lv' := [(0, .ref 36), (2, .int x2), (3, .int x3), (4, .int 0)]) [1, 2, 3, 0] rfl ?_
        refine wpO_bJ h (fun KL72 hKL72 h => ?_)
        refine lX12_strays_72 (K1 := KL72) hC (by omega) x2 x3 (fun M_165 h => ?_) _ _ _ h
        have h := hKL72 _ h
        refine g_aload_n (i := 0) (x := 36) hC (dX12_strays_165) rfl rfl ?_
        refine g_aload_n (i := 0) (x := 36) hC (dX12_strays_166) rfl rfl ?_
        refine g_getR (r := 53) hC flX12_67 (dX12_strays_167) rfl rfl rfl ?_
        refine g_iload_n (i := 2) (x := x2) hC (dX12_strays_170) rfl rfl ?_
        obtain ⟨q10, h⟩ := wpO_g h
        refine g_laload (n := 6) hC (dX12_strays_171) rfl q10 ?_
        refine g_lconst (v := 1) hC (dX12_strays_172) kl_1 ?_
        refine g_iload_n (i := 3) (x := x3) hC (dX12_strays_173) rfl rfl ?_
        refine g_lshl hC (dX12_strays_174) ?_
        have h := wpO_b h
        refine g_callVv ([.long (M_165.2.1 53 x2.toNatClampNeg), .long (zlshl 1 x3)]) hC wvX12_330 (dX12_strays_175) rfl rfl (by omega) (Nat.le_of_ble_eq_true rfl) (cX12_tellPart_ok (by omega) (M_165.2.1 53 x2.toNatClampNeg) (zlshl 1 x3) M_165 h) (fun M175 h => ?_)
        refine g_iconst (v := 0) hC (dX12_strays_178) kc_0 ?_
        refine g_ireturn hC hr (dX12_strays_179) ?_
        exact wpO_s h
      · have h := wpO_t c30 h
        refine g_iconst (v := (-1)) hC (dX12_strays_33) kc_m1 ?_
        refine g_ireturn hC hr (dX12_strays_34) ?_
        exact wpO_s h
/-! LostByStateModel.allNeeds()I -/
theorem dX12_allNeeds_0 : decode cX12_allNeeds 0 = .ok (.iconst 0, 1) := by decide +kernel
theorem dX12_allNeeds_1 : decode cX12_allNeeds 1 = .ok (.istore_n 1, 1) := by decide +kernel
theorem dX12_allNeeds_2 : decode cX12_allNeeds 2 = .ok (.iconst 0, 1) := by decide +kernel
theorem dX12_allNeeds_3 : decode cX12_allNeeds 3 = .ok (.istore_n 2, 1) := by decide +kernel
theorem dX12_allNeeds_4 : decode cX12_allNeeds 4 = .ok (.iload_n 2, 1) := by decide +kernel
theorem dX12_allNeeds_5 : decode cX12_allNeeds 5 = .ok (.aload_n 0, 1) := by decide +kernel
theorem dX12_allNeeds_6 : decode cX12_allNeeds 6 = .ok (.getfield 99, 3) := by decide +kernel
theorem dX12_allNeeds_9 : decode cX12_allNeeds 9 = .ok (.if_icmp .ge 18, 3) := by decide +kernel
theorem dX12_allNeeds_12 : decode cX12_allNeeds 12 = .ok (.iload_n 1, 1) := by decide +kernel
theorem dX12_allNeeds_13 : decode cX12_allNeeds 13 = .ok (.aload_n 0, 1) := by decide +kernel
theorem dX12_allNeeds_14 : decode cX12_allNeeds 14 = .ok (.getfield 26, 3) := by decide +kernel
theorem dX12_allNeeds_17 : decode cX12_allNeeds 17 = .ok (.iload_n 2, 1) := by decide +kernel
theorem dX12_allNeeds_18 : decode cX12_allNeeds 18 = .ok (.iaload, 1) := by decide +kernel
theorem dX12_allNeeds_19 : decode cX12_allNeeds 19 = .ok (.ior, 1) := by decide +kernel
theorem dX12_allNeeds_20 : decode cX12_allNeeds 20 = .ok (.istore_n 1, 1) := by decide +kernel
theorem dX12_allNeeds_21 : decode cX12_allNeeds 21 = .ok (.iinc 2 1, 3) := by decide +kernel
theorem dX12_allNeeds_24 : decode cX12_allNeeds 24 = .ok (.goto (-20), 3) := by decide +kernel
theorem dX12_allNeeds_27 : decode cX12_allNeeds 27 = .ok (.iload_n 1, 1) := by decide +kernel
theorem dX12_allNeeds_28 : decode cX12_allNeeds 28 = .ok (.ireturn, 1) := by decide +kernel
def fX12_allNeeds_L4 (M : zM) : Nat → Int32 → Int32 → Option Int32
  | 0, _, _ => none
  | n + 1, x1, x2 => if (M.1 36 2) ≤ x2 then (
    some x1)
    else (
    if zin x2 6 then (
    zlet (x1 ||| (M.1 40 x2.toNatClampNeg)) fun (x1_20 : Int32) =>
    fX12_allNeeds_L4 M n x1_20 (x2 + 1)) else none)
def fX12_allNeeds  (M : zM) : Option Int32 := (fX12_allNeeds_L4 M 4000 0 0).bind fun (x1_27 : Int32) =>
  some x1_27
set_option maxHeartbeats 4000000 in
theorem lX12_allNeeds_4 {E : zE} {Γ : zT} {d : Nat} {K1 : Int32 → Prop} (hC : Cx E Γ RX12 cX12_allNeeds 3 d) (hd : 0 ≤ d) (M : zM) (hx : ∀ (x1_27 : Int32), K1 x1_27 → G E Γ 3 27 [(1, .int x1_27)] [] M) :
    ∀ (n : Nat) (x1 : Int32) (x2 : Int32), wpO (fX12_allNeeds_L4 M n x1 x2) K1 → G E Γ 3 4 [(0, .ref 36), (1, .int x1), (2, .int x2)] [] M := by
  intro n
  induction n with
  | zero =>
    intro x1 x2 h
    exact (wpO_0 h).elim
  | succ n ih =>
    intro x1 x2 h
    rw [fX12_allNeeds_L4.eq_2] at h
    refine g_iload_n (i := 2) (x := x2) hC (dX12_allNeeds_4) rfl rfl ?_
    refine g_aload_n (i := 0) (x := 36) hC (dX12_allNeeds_5) rfl rfl ?_
    refine g_getI hC flX12_99 (dX12_allNeeds_6) rfl rfl ?_
    refine g_icmp_ge (tgt := 27) hC (dX12_allNeeds_9) (by decide) (fun c9 => ?_) (fun c9 => ?_)
    · have h := wpO_t c9 h
      refine g_sub (lv' := [(1, .int x1)]) [1] rfl ?_
      exact hx _ (wpO_s h)
    · have h := wpO_f c9 h
      refine g_iload_n (i := 1) (x := x1) hC (dX12_allNeeds_12) rfl rfl ?_
      refine g_aload_n (i := 0) (x := 36) hC (dX12_allNeeds_13) rfl rfl ?_
      refine g_getR (r := 40) hC flX12_26 (dX12_allNeeds_14) rfl rfl rfl ?_
      refine g_iload_n (i := 2) (x := x2) hC (dX12_allNeeds_17) rfl rfl ?_
      obtain ⟨q1, h⟩ := wpO_g h
      refine g_iaload (n := 6) hC (dX12_allNeeds_18) rfl q1 ?_
      refine g_ior hC (dX12_allNeeds_19) ?_
      refine g_nmi (fun x1_20 e_x1_20 => ?_)
      have h := wpO_n e_x1_20 h
      refine g_istore_n (i := 1) (lv2 := [(1, .int x1_20), (0, .ref 36), (2, .int x2)]) hC (dX12_allNeeds_20) rfl (by decide) rfl ?_
      refine g_iinc (x := x2) (v := (x2 + 1)) (lv2 := [(2, .int (x2 + 1)), (1, .int x1_20), (0, .ref 36)]) hC (dX12_allNeeds_21) rfl rfl (by decide) rfl ?_
      refine g_goto (tgt := 4) hC (dX12_allNeeds_24) (by decide) ?_
      refine g_sub (lv' := [(0, .ref 36), (1, .int x1_20), (2, .int (x2 + 1))]) [2, 1, 0] rfl ?_
      exact ih _ _ h
set_option maxHeartbeats 4000000 in
theorem cX12_allNeeds_ok {E : zE} {d : Nat} (hd : 0 ≤ d)  (M : zM) {K : Int32 → Prop} (h : wpO (fX12_allNeeds  M) K) : CMi E d yX12_allNeeds cX12_allNeeds 3 (some .int) [.ref 36] M (fun r N => M = N ∧ K r) := by
  refine CMi.of (by decide) (Nat.le_of_ble_eq_true rfl) (fun Γ hC hr => ?_)
  have hC : Cx E Γ RX12 cX12_allNeeds 3 d := hC
  show G E Γ 3 0 [(0, .ref 36)] [] M
  unfold fX12_allNeeds at h
  refine g_iconst (v := 0) hC (dX12_allNeeds_0) kc_0 ?_
  refine g_istore_n (i := 1) (lv2 := [(1, .int 0), (0, .ref 36)]) hC (dX12_allNeeds_1) rfl (by decide) rfl ?_
  refine g_iconst (v := 0) hC (dX12_allNeeds_2) kc_0 ?_
  refine g_istore_n (i := 2) (lv2 := [(2, .int 0), (1, .int 0), (0, .ref 36)]) hC (dX12_allNeeds_3) rfl (by decide) rfl ?_
  refine g_sub (lv' := [(0, .ref 36), (1, .int 0), (2, .int 0)]) [2, 1, 0] rfl ?_
  refine wpO_bJ h (fun KL4 hKL4 h => ?_)
  refine lX12_allNeeds_4 (K1 := KL4) hC (by omega) M (fun x1_27 h => ?_) _ _ _ h
  have h := hKL4 _ h
  refine g_iload_n (i := 1) (x := x1_27) hC (dX12_allNeeds_27) rfl rfl ?_
  refine g_ireturn hC hr (dX12_allNeeds_28) ?_
  exact ⟨rfl, wpO_s h⟩
/-! LostByStateModel.can()I -/
theorem dX12_can_0 : decode cX12_can 0 = .ok (.aload_n 0, 1) := by decide +kernel
theorem dX12_can_1 : decode cX12_can 1 = .ok (.iconst 0, 1) := by decide +kernel
theorem dX12_can_2 : decode cX12_can 2 = .ok (.putfield 86, 3) := by decide +kernel
theorem dX12_can_5 : decode cX12_can 5 = .ok (.aload_n 0, 1) := by decide +kernel
theorem dX12_can_6 : decode cX12_can 6 = .ok (.aload_n 0, 1) := by decide +kernel
theorem dX12_can_7 : decode cX12_can 7 = .ok (.aload_n 0, 1) := by decide +kernel
theorem dX12_can_8 : decode cX12_can 8 = .ok (.getfield 9, 3) := by decide +kernel
theorem dX12_can_11 : decode cX12_can 11 = .ok (.bipush 6, 2) := by decide +kernel
theorem dX12_can_13 : decode cX12_can 13 = .ok (.invokevirtual 213, 3) := by decide +kernel
theorem dX12_can_16 : decode cX12_can 16 = .ok (.invokevirtual 284, 3) := by decide +kernel
theorem dX12_can_19 : decode cX12_can 19 = .ok (.istore_n 1, 1) := by decide +kernel
theorem dX12_can_20 : decode cX12_can 20 = .ok (.aload_n 0, 1) := by decide +kernel
theorem dX12_can_21 : decode cX12_can 21 = .ok (.iconst 0, 1) := by decide +kernel
theorem dX12_can_22 : decode cX12_can 22 = .ok (.putfield 89, 3) := by decide +kernel
theorem dX12_can_25 : decode cX12_can 25 = .ok (.aload_n 0, 1) := by decide +kernel
theorem dX12_can_26 : decode cX12_can 26 = .ok (.iload_n 1, 1) := by decide +kernel
theorem dX12_can_27 : decode cX12_can 27 = .ok (.invokestatic 196, 3) := by decide +kernel
theorem dX12_can_30 : decode cX12_can 30 = .ok (.i2l, 1) := by decide +kernel
theorem dX12_can_31 : decode cX12_can 31 = .ok (.invokevirtual 280, 3) := by decide +kernel
theorem dX12_can_34 : decode cX12_can 34 = .ok (.aload_n 0, 1) := by decide +kernel
theorem dX12_can_35 : decode cX12_can 35 = .ok (.aload_n 0, 1) := by decide +kernel
theorem dX12_can_36 : decode cX12_can 36 = .ok (.invokevirtual 334, 3) := by decide +kernel
theorem dX12_can_39 : decode cX12_can 39 = .ok (.aload_n 0, 1) := by decide +kernel
theorem dX12_can_40 : decode cX12_can 40 = .ok (.aload_n 0, 1) := by decide +kernel
theorem dX12_can_41 : decode cX12_can 41 = .ok (.getfield 9, 3) := by decide +kernel
theorem dX12_can_44 : decode cX12_can 44 = .ok (.bipush 6, 2) := by decide +kernel
theorem dX12_can_46 : decode cX12_can 46 = .ok (.invokevirtual 213, 3) := by decide +kernel
theorem dX12_can_49 : decode cX12_can 49 = .ok (.iconst (-1), 1) := by decide +kernel
theorem dX12_can_50 : decode cX12_can 50 = .ok (.ixor, 1) := by decide +kernel
theorem dX12_can_51 : decode cX12_can 51 = .ok (.iand, 1) := by decide +kernel
theorem dX12_can_52 : decode cX12_can 52 = .ok (.i2l, 1) := by decide +kernel
theorem dX12_can_53 : decode cX12_can 53 = .ok (.invokevirtual 280, 3) := by decide +kernel
theorem dX12_can_56 : decode cX12_can 56 = .ok (.iload_n 1, 1) := by decide +kernel
theorem dX12_can_57 : decode cX12_can 57 = .ok (.ireturn, 1) := by decide +kernel
def fX12_can  (M : zM) : Option (Int32 × zM) := zlet (zSI M 36 12 0) fun (M2 : zM) =>
  (fX12_hadBy 37 6 M2).bind fun (r1 : Int32) =>
  (fX12_canWith r1 M2).bind fun (r2 : Int32) =>
  zlet (zSI M2 36 11 0) fun (M22 : zM) =>
  (fX12_tell ((fJ6_bitCount_0f7a4 r2).toInt64) M22).bind fun (M31 : zM) =>
  (fX12_allNeeds M31).bind fun (r5 : Int32) =>
  (fX12_hadBy 37 6 M31).bind fun (r6 : Int32) =>
  (fX12_tell ((r5 &&& (r6 ^^^ (-1))).toInt64) M31).bind fun (M53 : zM) =>
  some (r2, M53)
set_option maxHeartbeats 4000000 in
theorem cX12_can_ok {E : zE} {d : Nat} (hd : 1 ≤ d)  (M : zM) {K : (Int32 × zM) → Prop} (h : wpO (fX12_can  M) K) : CMi E d yX12_can cX12_can 2 (some .int) [.ref 36] M (fun r N => K (r, N)) := by
  refine CMi.of (by decide) (Nat.le_of_ble_eq_true rfl) (fun Γ hC hr => ?_)
  have hC : Cx E Γ RX12 cX12_can 2 d := hC
  show G E Γ 2 0 [(0, .ref 36)] [] M
  unfold fX12_can at h
  refine g_aload_n (i := 0) (x := 36) hC (dX12_can_0) rfl rfl ?_
  refine g_iconst (v := 0) hC (dX12_can_1) kc_0 ?_
  refine g_putI hC fpX12_86 (dX12_can_2) rfl rfl rfl rfl ?_
  refine g_nmM (fun M2 e_M2 => ?_)
  have h := wpO_n e_M2 h
  refine g_aload_n (i := 0) (x := 36) hC (dX12_can_5) rfl rfl ?_
  refine g_aload_n (i := 0) (x := 36) hC (dX12_can_6) rfl rfl ?_
  refine g_aload_n (i := 0) (x := 36) hC (dX12_can_7) rfl rfl ?_
  refine g_getR (r := 37) hC flX12_9 (dX12_can_8) rfl rfl rfl ?_
  refine g_bipush (v := 6) hC (dX12_can_11) kb_6 ?_
  have h := wpO_b h
  refine g_callVi ([.ref 37, .int 6]) hC wvX12_213 (dX12_can_13) rfl rfl (by omega) (Nat.le_of_ble_eq_true rfl) (cX12_hadBy_ok (by omega) 37 6 M2 h) (fun r1 N q => ?_)
  obtain ⟨rfl, h⟩ := q
  have h := wpO_b h
  refine g_callVi ([.int r1]) hC wvX12_284 (dX12_can_16) rfl rfl (by omega) (Nat.le_of_ble_eq_true rfl) (cX12_canWith_ok (by omega) r1 M2 h) (fun r2 N q => ?_)
  obtain ⟨rfl, h⟩ := q
  refine g_istore_n (i := 1) (lv2 := [(1, .int r2), (0, .ref 36)]) hC (dX12_can_19) rfl (by decide) rfl ?_
  refine g_aload_n (i := 0) (x := 36) hC (dX12_can_20) rfl rfl ?_
  refine g_iconst (v := 0) hC (dX12_can_21) kc_0 ?_
  refine g_putI hC fpX12_89 (dX12_can_22) rfl rfl rfl rfl ?_
  refine g_nmM (fun M22 e_M22 => ?_)
  have h := wpO_n e_M22 h
  refine g_aload_n (i := 0) (x := 36) hC (dX12_can_25) rfl rfl ?_
  refine g_iload_n (i := 1) (x := r2) hC (dX12_can_26) rfl rfl ?_
  refine g_callSi ([.int r2]) hC wsX12_196 (dX12_can_27) rfl (by omega) (Nat.le_of_ble_eq_true rfl) (cJ6_bitCount_0f7a4_ok (by omega) r2 M22 (K := fun r => r = fJ6_bitCount_0f7a4 r2) rfl) (fun r N q => ?_)
  obtain ⟨rfl, rfl⟩ := q
  refine g_i2l hC (dX12_can_30) ?_
  have h := wpO_b h
  refine g_callVv ([.long ((fJ6_bitCount_0f7a4 r2).toInt64)]) hC wvX12_280 (dX12_can_31) rfl rfl (by omega) (Nat.le_of_ble_eq_true rfl) (cX12_tell_ok (by omega) ((fJ6_bitCount_0f7a4 r2).toInt64) M22 h) (fun M31 h => ?_)
  refine g_aload_n (i := 0) (x := 36) hC (dX12_can_34) rfl rfl ?_
  refine g_aload_n (i := 0) (x := 36) hC (dX12_can_35) rfl rfl ?_
  have h := wpO_b h
  refine g_callVi ([]) hC wvX12_334 (dX12_can_36) rfl rfl (by omega) (Nat.le_of_ble_eq_true rfl) (cX12_allNeeds_ok (by omega) M31 h) (fun r5 N q => ?_)
  obtain ⟨rfl, h⟩ := q
  refine g_aload_n (i := 0) (x := 36) hC (dX12_can_39) rfl rfl ?_
  refine g_aload_n (i := 0) (x := 36) hC (dX12_can_40) rfl rfl ?_
  refine g_getR (r := 37) hC flX12_9 (dX12_can_41) rfl rfl rfl ?_
  refine g_bipush (v := 6) hC (dX12_can_44) kb_6 ?_
  have h := wpO_b h
  refine g_callVi ([.ref 37, .int 6]) hC wvX12_213 (dX12_can_46) rfl rfl (by omega) (Nat.le_of_ble_eq_true rfl) (cX12_hadBy_ok (by omega) 37 6 M31 h) (fun r6 N q => ?_)
  obtain ⟨rfl, h⟩ := q
  refine g_iconst (v := (-1)) hC (dX12_can_49) kc_m1 ?_
  refine g_ixor hC (dX12_can_50) ?_
  refine g_iand hC (dX12_can_51) ?_
  refine g_i2l hC (dX12_can_52) ?_
  have h := wpO_b h
  refine g_callVv ([.long ((r5 &&& (r6 ^^^ (-1))).toInt64)]) hC wvX12_280 (dX12_can_53) rfl rfl (by omega) (Nat.le_of_ble_eq_true rfl) (cX12_tell_ok (by omega) ((r5 &&& (r6 ^^^ (-1))).toInt64) M31 h) (fun M53 h => ?_)
  refine g_iload_n (i := 1) (x := r2) hC (dX12_can_56) rfl rfl ?_
  refine g_ireturn hC hr (dX12_can_57) ?_
  exact wpO_s h
/-! LostByStateModel.with(I)I -/
theorem dX12_with_0 : decode cX12_with 0 = .ok (.aload_n 0, 1) := by decide +kernel
theorem dX12_with_1 : decode cX12_with 1 = .ok (.iconst 0, 1) := by decide +kernel
theorem dX12_with_2 : decode cX12_with 2 = .ok (.putfield 86, 3) := by decide +kernel
theorem dX12_with_5 : decode cX12_with 5 = .ok (.iload_n 1, 1) := by decide +kernel
theorem dX12_with_6 : decode cX12_with 6 = .ok (.iconst 0, 1) := by decide +kernel
theorem dX12_with_7 : decode cX12_with 7 = .ok (.bipush 8, 2) := by decide +kernel
theorem dX12_with_9 : decode cX12_with 9 = .ok (.invokestatic 95, 3) := by decide +kernel
theorem dX12_with_12 : decode cX12_with 12 = .ok (.ifCond .ne 5, 3) := by decide +kernel
theorem dX12_with_15 : decode cX12_with 15 = .ok (.iconst (-1), 1) := by decide +kernel
theorem dX12_with_16 : decode cX12_with 16 = .ok (.ireturn, 1) := by decide +kernel
theorem dX12_with_17 : decode cX12_with 17 = .ok (.aload_n 0, 1) := by decide +kernel
theorem dX12_with_18 : decode cX12_with 18 = .ok (.aload_n 0, 1) := by decide +kernel
theorem dX12_with_19 : decode cX12_with 19 = .ok (.getfield 9, 3) := by decide +kernel
theorem dX12_with_22 : decode cX12_with 22 = .ok (.bipush 6, 2) := by decide +kernel
theorem dX12_with_24 : decode cX12_with 24 = .ok (.invokevirtual 213, 3) := by decide +kernel
theorem dX12_with_27 : decode cX12_with 27 = .ok (.istore_n 2, 1) := by decide +kernel
theorem dX12_with_28 : decode cX12_with 28 = .ok (.iconst 0, 1) := by decide +kernel
theorem dX12_with_29 : decode cX12_with 29 = .ok (.istore_n 3, 1) := by decide +kernel
theorem dX12_with_30 : decode cX12_with 30 = .ok (.aload_n 0, 1) := by decide +kernel
theorem dX12_with_31 : decode cX12_with 31 = .ok (.iload_n 2, 1) := by decide +kernel
theorem dX12_with_32 : decode cX12_with 32 = .ok (.invokevirtual 284, 3) := by decide +kernel
theorem dX12_with_35 : decode cX12_with 35 = .ok (.invokestatic 196, 3) := by decide +kernel
theorem dX12_with_38 : decode cX12_with 38 = .ok (.istore 4, 2) := by decide +kernel
theorem dX12_with_40 : decode cX12_with 40 = .ok (.iconst 1, 1) := by decide +kernel
theorem dX12_with_41 : decode cX12_with 41 = .ok (.istore 5, 2) := by decide +kernel
theorem dX12_with_43 : decode cX12_with 43 = .ok (.iload 5, 2) := by decide +kernel
theorem dX12_with_45 : decode cX12_with 45 = .ok (.aload_n 0, 1) := by decide +kernel
theorem dX12_with_46 : decode cX12_with 46 = .ok (.invokevirtual 233, 3) := by decide +kernel
theorem dX12_with_49 : decode cX12_with 49 = .ok (.if_icmp .gt 77, 3) := by decide +kernel
theorem dX12_with_52 : decode cX12_with 52 = .ok (.iload 5, 2) := by decide +kernel
theorem dX12_with_54 : decode cX12_with 54 = .ok (.iload_n 2, 1) := by decide +kernel
theorem dX12_with_55 : decode cX12_with 55 = .ok (.iand, 1) := by decide +kernel
theorem dX12_with_56 : decode cX12_with 56 = .ok (.ifCond .ne 64, 3) := by decide +kernel
theorem dX12_with_59 : decode cX12_with 59 = .ok (.iload 5, 2) := by decide +kernel
theorem dX12_with_61 : decode cX12_with 61 = .ok (.invokestatic 196, 3) := by decide +kernel
theorem dX12_with_64 : decode cX12_with 64 = .ok (.iload_n 1, 1) := by decide +kernel
theorem dX12_with_65 : decode cX12_with 65 = .ok (.if_icmp .le 6, 3) := by decide +kernel
theorem dX12_with_68 : decode cX12_with 68 = .ok (.goto 52, 3) := by decide +kernel
theorem dX12_with_71 : decode cX12_with 71 = .ok (.aload_n 0, 1) := by decide +kernel
theorem dX12_with_72 : decode cX12_with 72 = .ok (.iload_n 2, 1) := by decide +kernel
theorem dX12_with_73 : decode cX12_with 73 = .ok (.iload 5, 2) := by decide +kernel
theorem dX12_with_75 : decode cX12_with 75 = .ok (.ior, 1) := by decide +kernel
theorem dX12_with_76 : decode cX12_with 76 = .ok (.invokevirtual 284, 3) := by decide +kernel
theorem dX12_with_79 : decode cX12_with 79 = .ok (.invokestatic 196, 3) := by decide +kernel
theorem dX12_with_82 : decode cX12_with 82 = .ok (.istore 6, 2) := by decide +kernel
theorem dX12_with_84 : decode cX12_with 84 = .ok (.iload 6, 2) := by decide +kernel
theorem dX12_with_86 : decode cX12_with 86 = .ok (.iload 4, 2) := by decide +kernel
theorem dX12_with_88 : decode cX12_with 88 = .ok (.if_icmp .lt 32, 3) := by decide +kernel
theorem dX12_with_91 : decode cX12_with 91 = .ok (.iload 6, 2) := by decide +kernel
theorem dX12_with_93 : decode cX12_with 93 = .ok (.iload 4, 2) := by decide +kernel
theorem dX12_with_95 : decode cX12_with 95 = .ok (.if_icmp .ne 18, 3) := by decide +kernel
theorem dX12_with_98 : decode cX12_with 98 = .ok (.iload 5, 2) := by decide +kernel
theorem dX12_with_100 : decode cX12_with 100 = .ok (.invokestatic 196, 3) := by decide +kernel
theorem dX12_with_103 : decode cX12_with 103 = .ok (.iload_n 3, 1) := by decide +kernel
theorem dX12_with_104 : decode cX12_with 104 = .ok (.invokestatic 196, 3) := by decide +kernel
theorem dX12_with_107 : decode cX12_with 107 = .ok (.if_icmp .lt 6, 3) := by decide +kernel
theorem dX12_with_110 : decode cX12_with 110 = .ok (.goto 10, 3) := by decide +kernel
theorem dX12_with_113 : decode cX12_with 113 = .ok (.iload 5, 2) := by decide +kernel
theorem dX12_with_115 : decode cX12_with 115 = .ok (.istore_n 3, 1) := by decide +kernel
theorem dX12_with_116 : decode cX12_with 116 = .ok (.iload 6, 2) := by decide +kernel
theorem dX12_with_118 : decode cX12_with 118 = .ok (.istore 4, 2) := by decide +kernel
theorem dX12_with_120 : decode cX12_with 120 = .ok (.iinc 5 1, 3) := by decide +kernel
theorem dX12_with_123 : decode cX12_with 123 = .ok (.goto (-80), 3) := by decide +kernel
theorem dX12_with_126 : decode cX12_with 126 = .ok (.aload_n 0, 1) := by decide +kernel
theorem dX12_with_127 : decode cX12_with 127 = .ok (.iconst 0, 1) := by decide +kernel
theorem dX12_with_128 : decode cX12_with 128 = .ok (.putfield 89, 3) := by decide +kernel
theorem dX12_with_131 : decode cX12_with 131 = .ok (.aload_n 0, 1) := by decide +kernel
theorem dX12_with_132 : decode cX12_with 132 = .ok (.iload_n 3, 1) := by decide +kernel
theorem dX12_with_133 : decode cX12_with 133 = .ok (.i2l, 1) := by decide +kernel
theorem dX12_with_134 : decode cX12_with 134 = .ok (.invokevirtual 280, 3) := by decide +kernel
theorem dX12_with_137 : decode cX12_with 137 = .ok (.iload 4, 2) := by decide +kernel
theorem dX12_with_139 : decode cX12_with 139 = .ok (.ireturn, 1) := by decide +kernel
def fX12_with_L43 (x1 : Int32) (x2 : Int32) (M : zM) : Nat → Int32 → Int32 → Int32 → Option (Int32 × Int32)
  | 0, _, _, _ => none
  | n + 1, x3, x4, x5 => if (fX12_all M) < x5 then (
    some (x3, x4))
    else (
    (if (x5 &&& x2) = 0 then (
    if (fJ6_bitCount_0f7a4 x5) ≤ x1 then (
    (fX12_canWith (x2 ||| x5) M).bind fun (r8 : Int32) =>
    zlet (fJ6_bitCount_0f7a4 r8) fun (x6_82 : Int32) =>
    if x6_82 < x4 then (
    some (x3, x4))
    else (
    zj (fun (_ : Unit) =>
    some (x5, x6_82))
    fun J10 =>
    if x6_82 = x4 then (
    if (fJ6_bitCount_0f7a4 x5) < (fJ6_bitCount_0f7a4 x3) then (
    J10 ())
    else (
    some (x3, x4)))
    else (
    J10 ())))
    else (
    some (x3, x4)))
    else (
    some (x3, x4)) : Option (Int32 × Int32)).bind fun (q : Int32 × Int32) => zp q fun x3_120 x4_120 =>
    fX12_with_L43 x1 x2 M n x3_120 x4_120 (x5 + 1))
def fX12_with (x1 : Int32) (M : zM) : Option (Int32 × zM) := zlet (zSI M 36 12 0) fun (M2 : zM) =>
  if (fX12_in x1 0 8) = 0 then (
  some ((-1), M2))
  else (
  (fX12_hadBy 37 6 M2).bind fun (r2 : Int32) =>
  (fX12_canWith r2 M2).bind fun (r3 : Int32) =>
  zlet (fJ6_bitCount_0f7a4 r3) fun (x4_38 : Int32) =>
  (fX12_with_L43 x1 r2 M2 4000 0 x4_38 1).bind fun (q : Int32 × Int32) => zp q fun x3_126 x4_126 =>
  zlet (zSI M2 36 11 0) fun (M128 : zM) =>
  (fX12_tell x3_126.toInt64 M128).bind fun (M134 : zM) =>
  some (x4_126, M134))
set_option maxHeartbeats 4000000 in
theorem lX12_with_43 {E : zE} {Γ : zT} {d : Nat} {K1 : (Int32 × Int32) → Prop} (hC : Cx E Γ RX12 cX12_with 7 d) (hd : 1 ≤ d) (x1 : Int32) (x2 : Int32) (M : zM) (hx : ∀ (x3_126 : Int32) (x4_126 : Int32), K1 (x3_126, x4_126) → G E Γ 7 126 [(0, .ref 36), (3, .int x3_126), (4, .int x4_126)] [] M) :
    ∀ (n : Nat) (x3 : Int32) (x4 : Int32) (x5 : Int32), wpO (fX12_with_L43 x1 x2 M n x3 x4 x5) K1 → G E Γ 7 43 [(0, .ref 36), (1, .int x1), (2, .int x2), (3, .int x3), (4, .int x4), (5, .int x5)] [] M := by
  intro n
  induction n with
  | zero =>
    intro x3 x4 x5 h
    exact (wpO_0 h).elim
  | succ n ih =>
    intro x3 x4 x5 h
    rw [fX12_with_L43.eq_2] at h
    refine g_iload (i := 5) (x := x5) hC (dX12_with_43) rfl ?_
    refine g_aload_n (i := 0) (x := 36) hC (dX12_with_45) rfl rfl ?_
    refine g_callVi ([]) hC wvX12_233 (dX12_with_46) rfl rfl (by omega) (Nat.le_of_ble_eq_true rfl) (cX12_all_ok (by omega) M (K := fun r => r = fX12_all M) rfl) (fun r N q => ?_)
    obtain ⟨rfl, rfl⟩ := q
    refine g_icmp_gt (tgt := 126) hC (dX12_with_49) (by decide) (fun c49 => ?_) (fun c49 => ?_)
    · have h := wpO_t c49 h
      refine g_sub (lv' := [(0, .ref 36), (3, .int x3), (4, .int x4)]) [0, 3, 4] rfl ?_
      exact hx _ _ (wpO_s h)
    · have h := wpO_f c49 h
      refine g_iload (i := 5) (x := x5) hC (dX12_with_52) rfl ?_
      refine g_iload_n (i := 2) (x := x2) hC (dX12_with_54) rfl rfl ?_
      refine g_iand hC (dX12_with_55) ?_
      refine wpO_bJ h (fun KJ6 hKJ6 h => ?_)
      have hJ6 : ∀ (x3_120 : Int32) (x4_120 : Int32), KJ6 (x3_120, x4_120) → G E Γ 7 120 [(0, .ref 36), (1, .int x1), (2, .int x2), (3, .int x3_120), (4, .int x4_120), (5, .int x5)] [] M := by
        intro x3_120 x4_120 h
        have h := hKJ6 _ h
        have h := wpO_p h
        refine g_iinc (x := x5) (v := (x5 + 1)) (lv2 := [(5, .int (x5 + 1)), (0, .ref 36), (1, .int x1), (2, .int x2), (3, .int x3_120), (4, .int x4_120)]) hC (dX12_with_120) rfl rfl (by decide) rfl ?_
        refine g_goto (tgt := 43) hC (dX12_with_123) (by decide) ?_
        refine g_sub (lv' := [(0, .ref 36), (1, .int x1), (2, .int x2), (3, .int x3_120), (4, .int x4_120), (5, .int (x5 + 1))]) [1, 2, 3, 4, 5, 0] rfl ?_
        exact ih _ _ _ h
      refine g_if_ne (tgt := 120) hC (dX12_with_56) (by decide) (fun c56 => ?_) (fun c56 => ?_)
      · have h := wpO_f c56 h
        exact hJ6 _ _ (wpO_s h)
      · have h := wpO_t c56 h
        refine g_iload (i := 5) (x := x5) hC (dX12_with_59) rfl ?_
        refine g_callSi ([.int x5]) hC wsX12_196 (dX12_with_61) rfl (by omega) (Nat.le_of_ble_eq_true rfl) (cJ6_bitCount_0f7a4_ok (by omega) x5 M (K := fun r => r = fJ6_bitCount_0f7a4 x5) rfl) (fun r N q => ?_)
        obtain ⟨rfl, rfl⟩ := q
        refine g_iload_n (i := 1) (x := x1) hC (dX12_with_64) rfl rfl ?_
        refine g_icmp_le (tgt := 71) hC (dX12_with_65) (by decide) (fun c65 => ?_) (fun c65 => ?_)
        · have h := wpO_t c65 h
          refine g_aload_n (i := 0) (x := 36) hC (dX12_with_71) rfl rfl ?_
          refine g_iload_n (i := 2) (x := x2) hC (dX12_with_72) rfl rfl ?_
          refine g_iload (i := 5) (x := x5) hC (dX12_with_73) rfl ?_
          refine g_ior hC (dX12_with_75) ?_
          have h := wpO_b h
          refine g_callVi ([.int (x2 ||| x5)]) hC wvX12_284 (dX12_with_76) rfl rfl (by omega) (Nat.le_of_ble_eq_true rfl) (cX12_canWith_ok (by omega) (x2 ||| x5) M h) (fun r8 N q => ?_)
          obtain ⟨rfl, h⟩ := q
          refine g_callSi ([.int r8]) hC wsX12_196 (dX12_with_79) rfl (by omega) (Nat.le_of_ble_eq_true rfl) (cJ6_bitCount_0f7a4_ok (by omega) r8 M (K := fun r => r = fJ6_bitCount_0f7a4 r8) rfl) (fun r N q => ?_)
          obtain ⟨rfl, rfl⟩ := q
          refine g_nmi (fun x6_82 e_x6_82 => ?_)
          have h := wpO_n e_x6_82 h
          refine g_istore (i := 6) (lv2 := [(6, .int x6_82), (0, .ref 36), (1, .int x1), (2, .int x2), (3, .int x3), (4, .int x4), (5, .int x5)]) hC (dX12_with_82) (by decide) rfl ?_
          refine g_iload (i := 6) (x := x6_82) hC (dX12_with_84) rfl ?_
          refine g_iload (i := 4) (x := x4) hC (dX12_with_86) rfl ?_
          refine g_icmp_lt (tgt := 120) hC (dX12_with_88) (by decide) (fun c88 => ?_) (fun c88 => ?_)
          · have h := wpO_t c88 h
            refine g_sub (lv' := [(0, .ref 36), (1, .int x1), (2, .int x2), (3, .int x3), (4, .int x4), (5, .int x5)]) [1, 2, 3, 4, 5, 6] rfl ?_
            exact hJ6 _ _ (wpO_s h)
          · have h := wpO_f c88 h
            refine g_iload (i := 6) (x := x6_82) hC (dX12_with_91) rfl ?_
            refine g_iload (i := 4) (x := x4) hC (dX12_with_93) rfl ?_
            refine wpO_j h (fun J10 hkJ10 h => ?_)
            have hJ10 : ∀ (_ : Unit), wpO (J10 ()) KJ6 → G E Γ 7 113 [(0, .ref 36), (1, .int x1), (2, .int x2), (5, .int x5), (6, .int x6_82)] [] M := by
              intro _ h
              have h := hkJ10 _ h
              refine g_iload (i := 5) (x := x5) hC (dX12_with_113) rfl ?_
              refine g_istore_n (i := 3) (lv2 := [(3, .int x5), (0, .ref 36), (1, .int x1), (2, .int x2), (5, .int x5), (6, .int x6_82)]) hC (dX12_with_115) rfl (by decide) rfl ?_
              refine g_iload (i := 6) (x := x6_82) hC (dX12_with_116) rfl ?_
              refine g_istore (i := 4) (lv2 := [(4, .int x6_82), (3, .int x5), (0, .ref 36), (1, .int x1), (2, .int x2), (5, .int x5), (6, .int x6_82)]) hC (dX12_with_118) (by decide) rfl ?_
              refine g_sub (lv' := [(0, .ref 36), (1, .int x1), (2, .int x2), (3, .int x5), (4, .int x6_82), (5, .int x5)]) [2, 3, 4, 1, 0, 5] rfl ?_
              exact hJ6 _ _ (wpO_s h)
            refine g_icmp_ne (tgt := 113) hC (dX12_with_95) (by decide) (fun c95 => ?_) (fun c95 => ?_)
            · have h := wpO_f c95 h
              refine g_sub (lv' := [(0, .ref 36), (1, .int x1), (2, .int x2), (5, .int x5), (6, .int x6_82)]) [1, 2, 3, 6, 0] rfl ?_
              exact hJ10 () h
            · have h := wpO_t c95 h
              refine g_iload (i := 5) (x := x5) hC (dX12_with_98) rfl ?_
              refine g_callSi ([.int x5]) hC wsX12_196 (dX12_with_100) rfl (by omega) (Nat.le_of_ble_eq_true rfl) (cJ6_bitCount_0f7a4_ok (by omega) x5 M (K := fun r => r = fJ6_bitCount_0f7a4 x5) rfl) (fun r N q => ?_)
              obtain ⟨rfl, rfl⟩ := q
              refine g_iload_n (i := 3) (x := x3) hC (dX12_with_103) rfl rfl ?_
              refine g_callSi ([.int x3]) hC wsX12_196 (dX12_with_104) rfl (by omega) (Nat.le_of_ble_eq_true rfl) (cJ6_bitCount_0f7a4_ok (by omega) x3 M (K := fun r => r = fJ6_bitCount_0f7a4 x3) rfl) (fun r N q => ?_)
              obtain ⟨rfl, rfl⟩ := q
              refine g_icmp_lt (tgt := 113) hC (dX12_with_107) (by decide) (fun c107 => ?_) (fun c107 => ?_)
              · have h := wpO_t c107 h
                refine g_sub (lv' := [(0, .ref 36), (1, .int x1), (2, .int x2), (5, .int x5), (6, .int x6_82)]) [1, 2, 3, 6, 0] rfl ?_
                exact hJ10 () h
              · have h := wpO_f c107 h
                refine g_goto (tgt := 120) hC (dX12_with_110) (by decide) ?_
                refine g_sub (lv' := [(0, .ref 36), (1, .int x1), (2, .int x2), (3, .int x3), (4, .int x4), (5, .int x5)]) [1, 2, 3, 4, 5, 6] rfl ?_
                exact hJ6 _ _ (wpO_s h)
        · have h := wpO_f c65 h
          refine g_goto (tgt := 120) hC (dX12_with_68) (by decide) ?_
          exact hJ6 _ _ (wpO_s h)
set_option maxHeartbeats 4000000 in
theorem cX12_with_ok {E : zE} {d : Nat} (hd : 1 ≤ d) (x1 : Int32) (M : zM) {K : (Int32 × zM) → Prop} (h : wpO (fX12_with x1 M) K) : CMi E d yX12_with cX12_with 7 (some .int) [.ref 36, .int x1] M (fun r N => K (r, N)) := by
  refine CMi.of (by decide) (Nat.le_of_ble_eq_true rfl) (fun Γ hC hr => ?_)
  have hC : Cx E Γ RX12 cX12_with 7 d := hC
  show G E Γ 7 0 [(0, .ref 36), (1, .int x1)] [] M
  unfold fX12_with at h
  refine g_aload_n (i := 0) (x := 36) hC (dX12_with_0) rfl rfl ?_
  refine g_iconst (v := 0) hC (dX12_with_1) kc_0 ?_
  refine g_putI hC fpX12_86 (dX12_with_2) rfl rfl rfl rfl ?_
  refine g_nmM (fun M2 e_M2 => ?_)
  have h := wpO_n e_M2 h
  refine g_iload_n (i := 1) (x := x1) hC (dX12_with_5) rfl rfl ?_
  refine g_iconst (v := 0) hC (dX12_with_6) kc_0 ?_
  refine g_bipush (v := 8) hC (dX12_with_7) kb_8 ?_
  refine g_callSi ([.int x1, .int 0, .int 8]) hC wsX12_95 (dX12_with_9) rfl (by omega) (Nat.le_of_ble_eq_true rfl) (cX12_in_ok (by omega) x1 0 8 M2 (K := fun r => r = fX12_in x1 0 8) rfl) (fun r N q => ?_)
  obtain ⟨rfl, rfl⟩ := q
  refine g_if_ne (tgt := 17) hC (dX12_with_12) (by decide) (fun c12 => ?_) (fun c12 => ?_)
  · have h := wpO_f c12 h
    refine g_aload_n (i := 0) (x := 36) hC (dX12_with_17) rfl rfl ?_
    refine g_aload_n (i := 0) (x := 36) hC (dX12_with_18) rfl rfl ?_
    refine g_getR (r := 37) hC flX12_9 (dX12_with_19) rfl rfl rfl ?_
    refine g_bipush (v := 6) hC (dX12_with_22) kb_6 ?_
    have h := wpO_b h
    refine g_callVi ([.ref 37, .int 6]) hC wvX12_213 (dX12_with_24) rfl rfl (by omega) (Nat.le_of_ble_eq_true rfl) (cX12_hadBy_ok (by omega) 37 6 M2 h) (fun r2 N q => ?_)
    obtain ⟨rfl, h⟩ := q
    refine g_istore_n (i := 2) (lv2 := [(2, .int r2), (0, .ref 36), (1, .int x1)]) hC (dX12_with_27) rfl (by decide) rfl ?_
    refine g_iconst (v := 0) hC (dX12_with_28) kc_0 ?_
    refine g_istore_n (i := 3) (lv2 := [(3, .int 0), (2, .int r2), (0, .ref 36), (1, .int x1)]) hC (dX12_with_29) rfl (by decide) rfl ?_
    refine g_aload_n (i := 0) (x := 36) hC (dX12_with_30) rfl rfl ?_
    refine g_iload_n (i := 2) (x := r2) hC (dX12_with_31) rfl rfl ?_
    have h := wpO_b h
    refine g_callVi ([.int r2]) hC wvX12_284 (dX12_with_32) rfl rfl (by omega) (Nat.le_of_ble_eq_true rfl) (cX12_canWith_ok (by omega) r2 M2 h) (fun r3 N q => ?_)
    obtain ⟨rfl, h⟩ := q
    refine g_callSi ([.int r3]) hC wsX12_196 (dX12_with_35) rfl (by omega) (Nat.le_of_ble_eq_true rfl) (cJ6_bitCount_0f7a4_ok (by omega) r3 M2 (K := fun r => r = fJ6_bitCount_0f7a4 r3) rfl) (fun r N q => ?_)
    obtain ⟨rfl, rfl⟩ := q
    refine g_nmi (fun x4_38 e_x4_38 => ?_)
    have h := wpO_n e_x4_38 h
    refine g_istore (i := 4) (lv2 := [(4, .int x4_38), (3, .int 0), (2, .int r2), (0, .ref 36), (1, .int x1)]) hC (dX12_with_38) (by decide) rfl ?_
    refine g_iconst (v := 1) hC (dX12_with_40) kc_1 ?_
    refine g_istore (i := 5) (lv2 := [(5, .int 1), (4, .int x4_38), (3, .int 0), (2, .int r2), (0, .ref 36), (1, .int x1)]) hC (dX12_with_41) (by decide) rfl ?_
    refine g_sub (lv' := [(0, .ref 36), (1, .int x1), (2, .int r2), (3, .int 0), (4, .int x4_38), (5, .int 1)]) [4, 5, 3, 2, 1, 0] rfl ?_
    refine wpO_bJ h (fun KL43 hKL43 h => ?_)
    refine lX12_with_43 (K1 := KL43) hC (by omega) x1 r2 M2 (fun x3_126 x4_126 h => ?_) _ _ _ _ h
    have h := hKL43 _ h
    have h := wpO_p h
    refine g_aload_n (i := 0) (x := 36) hC (dX12_with_126) rfl rfl ?_
    refine g_iconst (v := 0) hC (dX12_with_127) kc_0 ?_
    refine g_putI hC fpX12_89 (dX12_with_128) rfl rfl rfl rfl ?_
    refine g_nmM (fun M128 e_M128 => ?_)
    have h := wpO_n e_M128 h
    refine g_aload_n (i := 0) (x := 36) hC (dX12_with_131) rfl rfl ?_
    refine g_iload_n (i := 3) (x := x3_126) hC (dX12_with_132) rfl rfl ?_
    refine g_i2l hC (dX12_with_133) ?_
    have h := wpO_b h
    refine g_callVv ([.long x3_126.toInt64]) hC wvX12_280 (dX12_with_134) rfl rfl (by omega) (Nat.le_of_ble_eq_true rfl) (cX12_tell_ok (by omega) x3_126.toInt64 M128 h) (fun M134 h => ?_)
    refine g_iload (i := 4) (x := x4_126) hC (dX12_with_137) rfl ?_
    refine g_ireturn hC hr (dX12_with_139) ?_
    exact wpO_s h
  · have h := wpO_t c12 h
    refine g_iconst (v := (-1)) hC (dX12_with_15) kc_m1 ?_
    refine g_ireturn hC hr (dX12_with_16) ?_
    exact wpO_s h
/-! LostByStateModel.weakest()I -/
theorem dX12_weakest_0 : decode cX12_weakest 0 = .ok (.aload_n 0, 1) := by decide +kernel
theorem dX12_weakest_1 : decode cX12_weakest 1 = .ok (.iconst 0, 1) := by decide +kernel
theorem dX12_weakest_2 : decode cX12_weakest 2 = .ok (.putfield 86, 3) := by decide +kernel
theorem dX12_weakest_5 : decode cX12_weakest 5 = .ok (.aload_n 0, 1) := by decide +kernel
theorem dX12_weakest_6 : decode cX12_weakest 6 = .ok (.aload_n 0, 1) := by decide +kernel
theorem dX12_weakest_7 : decode cX12_weakest 7 = .ok (.getfield 9, 3) := by decide +kernel
theorem dX12_weakest_10 : decode cX12_weakest 10 = .ok (.bipush 6, 2) := by decide +kernel
theorem dX12_weakest_12 : decode cX12_weakest 12 = .ok (.invokevirtual 213, 3) := by decide +kernel
theorem dX12_weakest_15 : decode cX12_weakest 15 = .ok (.istore_n 1, 1) := by decide +kernel
theorem dX12_weakest_16 : decode cX12_weakest 16 = .ok (.iload_n 1, 1) := by decide +kernel
theorem dX12_weakest_17 : decode cX12_weakest 17 = .ok (.ifCond .ne 6, 3) := by decide +kernel
theorem dX12_weakest_20 : decode cX12_weakest 20 = .ok (.bipush (-2), 2) := by decide +kernel
theorem dX12_weakest_22 : decode cX12_weakest 22 = .ok (.ireturn, 1) := by decide +kernel
theorem dX12_weakest_23 : decode cX12_weakest 23 = .ok (.iconst (-1), 1) := by decide +kernel
theorem dX12_weakest_24 : decode cX12_weakest 24 = .ok (.istore_n 2, 1) := by decide +kernel
theorem dX12_weakest_25 : decode cX12_weakest 25 = .ok (.iconst 0, 1) := by decide +kernel
theorem dX12_weakest_26 : decode cX12_weakest 26 = .ok (.istore_n 3, 1) := by decide +kernel
theorem dX12_weakest_27 : decode cX12_weakest 27 = .ok (.iconst 0, 1) := by decide +kernel
theorem dX12_weakest_28 : decode cX12_weakest 28 = .ok (.istore 4, 2) := by decide +kernel
theorem dX12_weakest_30 : decode cX12_weakest 30 = .ok (.iload 4, 2) := by decide +kernel
theorem dX12_weakest_32 : decode cX12_weakest 32 = .ok (.aload_n 0, 1) := by decide +kernel
theorem dX12_weakest_33 : decode cX12_weakest 33 = .ok (.getfield 92, 3) := by decide +kernel
theorem dX12_weakest_36 : decode cX12_weakest 36 = .ok (.if_icmp .ge 69, 3) := by decide +kernel
theorem dX12_weakest_39 : decode cX12_weakest 39 = .ok (.iload_n 1, 1) := by decide +kernel
theorem dX12_weakest_40 : decode cX12_weakest 40 = .ok (.iload 4, 2) := by decide +kernel
theorem dX12_weakest_42 : decode cX12_weakest 42 = .ok (.invokestatic 216, 3) := by decide +kernel
theorem dX12_weakest_45 : decode cX12_weakest 45 = .ok (.ifCond .ne 6, 3) := by decide +kernel
theorem dX12_weakest_48 : decode cX12_weakest 48 = .ok (.goto 51, 3) := by decide +kernel
theorem dX12_weakest_51 : decode cX12_weakest 51 = .ok (.aload_n 0, 1) := by decide +kernel
theorem dX12_weakest_52 : decode cX12_weakest 52 = .ok (.iload_n 1, 1) := by decide +kernel
theorem dX12_weakest_53 : decode cX12_weakest 53 = .ok (.invokevirtual 284, 3) := by decide +kernel
theorem dX12_weakest_56 : decode cX12_weakest 56 = .ok (.aload_n 0, 1) := by decide +kernel
theorem dX12_weakest_57 : decode cX12_weakest 57 = .ok (.iload_n 1, 1) := by decide +kernel
theorem dX12_weakest_58 : decode cX12_weakest 58 = .ok (.iconst 1, 1) := by decide +kernel
theorem dX12_weakest_59 : decode cX12_weakest 59 = .ok (.iload 4, 2) := by decide +kernel
theorem dX12_weakest_61 : decode cX12_weakest 61 = .ok (.ishl, 1) := by decide +kernel
theorem dX12_weakest_62 : decode cX12_weakest 62 = .ok (.iconst (-1), 1) := by decide +kernel
theorem dX12_weakest_63 : decode cX12_weakest 63 = .ok (.ixor, 1) := by decide +kernel
theorem dX12_weakest_64 : decode cX12_weakest 64 = .ok (.iand, 1) := by decide +kernel
theorem dX12_weakest_65 : decode cX12_weakest 65 = .ok (.invokevirtual 284, 3) := by decide +kernel
theorem dX12_weakest_68 : decode cX12_weakest 68 = .ok (.iconst (-1), 1) := by decide +kernel
theorem dX12_weakest_69 : decode cX12_weakest 69 = .ok (.ixor, 1) := by decide +kernel
theorem dX12_weakest_70 : decode cX12_weakest 70 = .ok (.iand, 1) := by decide +kernel
theorem dX12_weakest_71 : decode cX12_weakest 71 = .ok (.istore 5, 2) := by decide +kernel
theorem dX12_weakest_73 : decode cX12_weakest 73 = .ok (.iload_n 2, 1) := by decide +kernel
theorem dX12_weakest_74 : decode cX12_weakest 74 = .ok (.iconst (-1), 1) := by decide +kernel
theorem dX12_weakest_75 : decode cX12_weakest 75 = .ok (.if_icmp .eq 18, 3) := by decide +kernel
theorem dX12_weakest_78 : decode cX12_weakest 78 = .ok (.iload 5, 2) := by decide +kernel
theorem dX12_weakest_80 : decode cX12_weakest 80 = .ok (.invokestatic 196, 3) := by decide +kernel
theorem dX12_weakest_83 : decode cX12_weakest 83 = .ok (.iload_n 3, 1) := by decide +kernel
theorem dX12_weakest_84 : decode cX12_weakest 84 = .ok (.invokestatic 196, 3) := by decide +kernel
theorem dX12_weakest_87 : decode cX12_weakest 87 = .ok (.if_icmp .gt 6, 3) := by decide +kernel
theorem dX12_weakest_90 : decode cX12_weakest 90 = .ok (.goto 9, 3) := by decide +kernel
theorem dX12_weakest_93 : decode cX12_weakest 93 = .ok (.iload 4, 2) := by decide +kernel
theorem dX12_weakest_95 : decode cX12_weakest 95 = .ok (.istore_n 2, 1) := by decide +kernel
theorem dX12_weakest_96 : decode cX12_weakest 96 = .ok (.iload 5, 2) := by decide +kernel
theorem dX12_weakest_98 : decode cX12_weakest 98 = .ok (.istore_n 3, 1) := by decide +kernel
theorem dX12_weakest_99 : decode cX12_weakest 99 = .ok (.iinc 4 1, 3) := by decide +kernel
theorem dX12_weakest_102 : decode cX12_weakest 102 = .ok (.goto (-72), 3) := by decide +kernel
theorem dX12_weakest_105 : decode cX12_weakest 105 = .ok (.aload_n 0, 1) := by decide +kernel
theorem dX12_weakest_106 : decode cX12_weakest 106 = .ok (.iconst 0, 1) := by decide +kernel
theorem dX12_weakest_107 : decode cX12_weakest 107 = .ok (.putfield 89, 3) := by decide +kernel
theorem dX12_weakest_110 : decode cX12_weakest 110 = .ok (.aload_n 0, 1) := by decide +kernel
theorem dX12_weakest_111 : decode cX12_weakest 111 = .ok (.iload_n 3, 1) := by decide +kernel
theorem dX12_weakest_112 : decode cX12_weakest 112 = .ok (.i2l, 1) := by decide +kernel
theorem dX12_weakest_113 : decode cX12_weakest 113 = .ok (.invokevirtual 280, 3) := by decide +kernel
theorem dX12_weakest_116 : decode cX12_weakest 116 = .ok (.iload_n 2, 1) := by decide +kernel
theorem dX12_weakest_117 : decode cX12_weakest 117 = .ok (.ireturn, 1) := by decide +kernel
def fX12_weakest_L30 (x1 : Int32) (M : zM) : Nat → Int32 → Int32 → Int32 → Option (Int32 × Int32)
  | 0, _, _, _ => none
  | n + 1, x2, x3, x4 => if (M.1 36 1) ≤ x4 then (
    some (x2, x3))
    else (
    (if (fX12_has x1 x4) = 0 then (
    some (x2, x3))
    else (
    (fX12_canWith x1 M).bind fun (r4 : Int32) =>
    (fX12_canWith (x1 &&& ((zshl 1 x4) ^^^ (-1))) M).bind fun (r5 : Int32) =>
    zlet (r4 &&& (r5 ^^^ (-1))) fun (x5_71 : Int32) =>
    zj (fun (_ : Unit) =>
    some (x4, x5_71))
    fun J6 =>
    if x2 = (-1) then (
    J6 ())
    else (
    if (fJ6_bitCount_0f7a4 x3) < (fJ6_bitCount_0f7a4 x5_71) then (
    J6 ())
    else (
    some (x2, x3)))) : Option (Int32 × Int32)).bind fun (q : Int32 × Int32) => zp q fun x2_99 x3_99 =>
    fX12_weakest_L30 x1 M n x2_99 x3_99 (x4 + 1))
def fX12_weakest  (M : zM) : Option (Int32 × zM) := zlet (zSI M 36 12 0) fun (M2 : zM) =>
  (fX12_hadBy 37 6 M2).bind fun (r1 : Int32) =>
  if r1 = 0 then (
  some ((-2), M2))
  else (
  (fX12_weakest_L30 r1 M2 4000 (-1) 0 0).bind fun (q : Int32 × Int32) => zp q fun x2_105 x3_105 =>
  zlet (zSI M2 36 11 0) fun (M107 : zM) =>
  (fX12_tell x3_105.toInt64 M107).bind fun (M113 : zM) =>
  some (x2_105, M113))
set_option maxHeartbeats 4000000 in
theorem lX12_weakest_30 {E : zE} {Γ : zT} {d : Nat} {K1 : (Int32 × Int32) → Prop} (hC : Cx E Γ RX12 cX12_weakest 6 d) (hd : 1 ≤ d) (x1 : Int32) (M : zM) (hx : ∀ (x2_105 : Int32) (x3_105 : Int32), K1 (x2_105, x3_105) → G E Γ 6 105 [(0, .ref 36), (2, .int x2_105), (3, .int x3_105)] [] M) :
    ∀ (n : Nat) (x2 : Int32) (x3 : Int32) (x4 : Int32), wpO (fX12_weakest_L30 x1 M n x2 x3 x4) K1 → G E Γ 6 30 [(0, .ref 36), (1, .int x1), (2, .int x2), (3, .int x3), (4, .int x4)] [] M := by
  intro n
  induction n with
  | zero =>
    intro x2 x3 x4 h
    exact (wpO_0 h).elim
  | succ n ih =>
    intro x2 x3 x4 h
    rw [fX12_weakest_L30.eq_2] at h
    refine g_iload (i := 4) (x := x4) hC (dX12_weakest_30) rfl ?_
    refine g_aload_n (i := 0) (x := 36) hC (dX12_weakest_32) rfl rfl ?_
    refine g_getI hC flX12_92 (dX12_weakest_33) rfl rfl ?_
    refine g_icmp_ge (tgt := 105) hC (dX12_weakest_36) (by decide) (fun c36 => ?_) (fun c36 => ?_)
    · have h := wpO_t c36 h
      refine g_sub (lv' := [(0, .ref 36), (2, .int x2), (3, .int x3)]) [0, 2, 3] rfl ?_
      exact hx _ _ (wpO_s h)
    · have h := wpO_f c36 h
      refine g_iload_n (i := 1) (x := x1) hC (dX12_weakest_39) rfl rfl ?_
      refine g_iload (i := 4) (x := x4) hC (dX12_weakest_40) rfl ?_
      refine g_callSi ([.int x1, .int x4]) hC wsX12_216 (dX12_weakest_42) rfl (by omega) (Nat.le_of_ble_eq_true rfl) (cX12_has_ok (by omega) x1 x4 M (K := fun r => r = fX12_has x1 x4) rfl) (fun r N q => ?_)
      obtain ⟨rfl, rfl⟩ := q
      refine wpO_bJ h (fun KJ3 hKJ3 h => ?_)
      have hJ3 : ∀ (x2_99 : Int32) (x3_99 : Int32), KJ3 (x2_99, x3_99) → G E Γ 6 99 [(0, .ref 36), (1, .int x1), (2, .int x2_99), (3, .int x3_99), (4, .int x4)] [] M := by
        intro x2_99 x3_99 h
        have h := hKJ3 _ h
        have h := wpO_p h
        refine g_iinc (x := x4) (v := (x4 + 1)) (lv2 := [(4, .int (x4 + 1)), (0, .ref 36), (1, .int x1), (2, .int x2_99), (3, .int x3_99)]) hC (dX12_weakest_99) rfl rfl (by decide) rfl ?_
        refine g_goto (tgt := 30) hC (dX12_weakest_102) (by decide) ?_
        refine g_sub (lv' := [(0, .ref 36), (1, .int x1), (2, .int x2_99), (3, .int x3_99), (4, .int (x4 + 1))]) [1, 2, 3, 4, 0] rfl ?_
        exact ih _ _ _ h
      refine g_if_ne (tgt := 51) hC (dX12_weakest_45) (by decide) (fun c45 => ?_) (fun c45 => ?_)
      · have h := wpO_f c45 h
        refine g_aload_n (i := 0) (x := 36) hC (dX12_weakest_51) rfl rfl ?_
        refine g_iload_n (i := 1) (x := x1) hC (dX12_weakest_52) rfl rfl ?_
        have h := wpO_b h
        refine g_callVi ([.int x1]) hC wvX12_284 (dX12_weakest_53) rfl rfl (by omega) (Nat.le_of_ble_eq_true rfl) (cX12_canWith_ok (by omega) x1 M h) (fun r4 N q => ?_)
        obtain ⟨rfl, h⟩ := q
        refine g_aload_n (i := 0) (x := 36) hC (dX12_weakest_56) rfl rfl ?_
        refine g_iload_n (i := 1) (x := x1) hC (dX12_weakest_57) rfl rfl ?_
        refine g_iconst (v := 1) hC (dX12_weakest_58) kc_1 ?_
        refine g_iload (i := 4) (x := x4) hC (dX12_weakest_59) rfl ?_
        refine g_ishl hC (dX12_weakest_61) ?_
        refine g_iconst (v := (-1)) hC (dX12_weakest_62) kc_m1 ?_
        refine g_ixor hC (dX12_weakest_63) ?_
        refine g_iand hC (dX12_weakest_64) ?_
        have h := wpO_b h
        refine g_callVi ([.int (x1 &&& ((zshl 1 x4) ^^^ (-1)))]) hC wvX12_284 (dX12_weakest_65) rfl rfl (by omega) (Nat.le_of_ble_eq_true rfl) (cX12_canWith_ok (by omega) (x1 &&& ((zshl 1 x4) ^^^ (-1))) M h) (fun r5 N q => ?_)
        obtain ⟨rfl, h⟩ := q
        refine g_iconst (v := (-1)) hC (dX12_weakest_68) kc_m1 ?_
        refine g_ixor hC (dX12_weakest_69) ?_
        refine g_iand hC (dX12_weakest_70) ?_
        refine g_nmi (fun x5_71 e_x5_71 => ?_)
        have h := wpO_n e_x5_71 h
        refine g_istore (i := 5) (lv2 := [(5, .int x5_71), (0, .ref 36), (1, .int x1), (2, .int x2), (3, .int x3), (4, .int x4)]) hC (dX12_weakest_71) (by decide) rfl ?_
        refine g_iload_n (i := 2) (x := x2) hC (dX12_weakest_73) rfl rfl ?_
        refine g_iconst (v := (-1)) hC (dX12_weakest_74) kc_m1 ?_
        refine wpO_j h (fun J6 hkJ6 h => ?_)
        have hJ6 : ∀ (_ : Unit), wpO (J6 ()) KJ3 → G E Γ 6 93 [(0, .ref 36), (1, .int x1), (4, .int x4), (5, .int x5_71)] [] M := by
          intro _ h
          have h := hkJ6 _ h
          refine g_iload (i := 4) (x := x4) hC (dX12_weakest_93) rfl ?_
          refine g_istore_n (i := 2) (lv2 := [(2, .int x4), (0, .ref 36), (1, .int x1), (4, .int x4), (5, .int x5_71)]) hC (dX12_weakest_95) rfl (by decide) rfl ?_
          refine g_iload (i := 5) (x := x5_71) hC (dX12_weakest_96) rfl ?_
          refine g_istore_n (i := 3) (lv2 := [(3, .int x5_71), (2, .int x4), (0, .ref 36), (1, .int x1), (4, .int x4), (5, .int x5_71)]) hC (dX12_weakest_98) rfl (by decide) rfl ?_
          refine g_sub (lv' := [(0, .ref 36), (1, .int x1), (2, .int x4), (3, .int x5_71), (4, .int x4)]) [2, 3, 1, 0, 4] rfl ?_
          exact hJ3 _ _ (wpO_s h)
        refine g_icmp_eq (tgt := 93) hC (dX12_weakest_75) (by decide) (fun c75 => ?_) (fun c75 => ?_)
        · have h := wpO_t c75 h
          refine g_sub (lv' := [(0, .ref 36), (1, .int x1), (4, .int x4), (5, .int x5_71)]) [1, 2, 5, 0] rfl ?_
          exact hJ6 () h
        · have h := wpO_f c75 h
          refine g_iload (i := 5) (x := x5_71) hC (dX12_weakest_78) rfl ?_
          refine g_callSi ([.int x5_71]) hC wsX12_196 (dX12_weakest_80) rfl (by omega) (Nat.le_of_ble_eq_true rfl) (cJ6_bitCount_0f7a4_ok (by omega) x5_71 M (K := fun r => r = fJ6_bitCount_0f7a4 x5_71) rfl) (fun r N q => ?_)
          obtain ⟨rfl, rfl⟩ := q
          refine g_iload_n (i := 3) (x := x3) hC (dX12_weakest_83) rfl rfl ?_
          refine g_callSi ([.int x3]) hC wsX12_196 (dX12_weakest_84) rfl (by omega) (Nat.le_of_ble_eq_true rfl) (cJ6_bitCount_0f7a4_ok (by omega) x3 M (K := fun r => r = fJ6_bitCount_0f7a4 x3) rfl) (fun r N q => ?_)
          obtain ⟨rfl, rfl⟩ := q
          refine g_icmp_gt (tgt := 93) hC (dX12_weakest_87) (by decide) (fun c87 => ?_) (fun c87 => ?_)
          · have h := wpO_t c87 h
            refine g_sub (lv' := [(0, .ref 36), (1, .int x1), (4, .int x4), (5, .int x5_71)]) [1, 2, 5, 0] rfl ?_
            exact hJ6 () h
          · have h := wpO_f c87 h
            refine g_goto (tgt := 99) hC (dX12_weakest_90) (by decide) ?_
            refine g_sub (lv' := [(0, .ref 36), (1, .int x1), (2, .int x2), (3, .int x3), (4, .int x4)]) [1, 2, 3, 4, 5] rfl ?_
            exact hJ3 _ _ (wpO_s h)
      · have h := wpO_t c45 h
        refine g_goto (tgt := 99) hC (dX12_weakest_48) (by decide) ?_
        exact hJ3 _ _ (wpO_s h)
set_option maxHeartbeats 4000000 in
theorem cX12_weakest_ok {E : zE} {d : Nat} (hd : 1 ≤ d)  (M : zM) {K : (Int32 × zM) → Prop} (h : wpO (fX12_weakest  M) K) : CMi E d yX12_weakest cX12_weakest 6 (some .int) [.ref 36] M (fun r N => K (r, N)) := by
  refine CMi.of (by decide) (Nat.le_of_ble_eq_true rfl) (fun Γ hC hr => ?_)
  have hC : Cx E Γ RX12 cX12_weakest 6 d := hC
  show G E Γ 6 0 [(0, .ref 36)] [] M
  unfold fX12_weakest at h
  refine g_aload_n (i := 0) (x := 36) hC (dX12_weakest_0) rfl rfl ?_
  refine g_iconst (v := 0) hC (dX12_weakest_1) kc_0 ?_
  refine g_putI hC fpX12_86 (dX12_weakest_2) rfl rfl rfl rfl ?_
  refine g_nmM (fun M2 e_M2 => ?_)
  have h := wpO_n e_M2 h
  refine g_aload_n (i := 0) (x := 36) hC (dX12_weakest_5) rfl rfl ?_
  refine g_aload_n (i := 0) (x := 36) hC (dX12_weakest_6) rfl rfl ?_
  refine g_getR (r := 37) hC flX12_9 (dX12_weakest_7) rfl rfl rfl ?_
  refine g_bipush (v := 6) hC (dX12_weakest_10) kb_6 ?_
  have h := wpO_b h
  refine g_callVi ([.ref 37, .int 6]) hC wvX12_213 (dX12_weakest_12) rfl rfl (by omega) (Nat.le_of_ble_eq_true rfl) (cX12_hadBy_ok (by omega) 37 6 M2 h) (fun r1 N q => ?_)
  obtain ⟨rfl, h⟩ := q
  refine g_istore_n (i := 1) (lv2 := [(1, .int r1), (0, .ref 36)]) hC (dX12_weakest_15) rfl (by decide) rfl ?_
  refine g_iload_n (i := 1) (x := r1) hC (dX12_weakest_16) rfl rfl ?_
  refine g_if_ne (tgt := 23) hC (dX12_weakest_17) (by decide) (fun c17 => ?_) (fun c17 => ?_)
  · have h := wpO_f c17 h
    refine g_iconst (v := (-1)) hC (dX12_weakest_23) kc_m1 ?_
    refine g_istore_n (i := 2) (lv2 := [(2, .int (-1)), (1, .int r1), (0, .ref 36)]) hC (dX12_weakest_24) rfl (by decide) rfl ?_
    refine g_iconst (v := 0) hC (dX12_weakest_25) kc_0 ?_
    refine g_istore_n (i := 3) (lv2 := [(3, .int 0), (2, .int (-1)), (1, .int r1), (0, .ref 36)]) hC (dX12_weakest_26) rfl (by decide) rfl ?_
    refine g_iconst (v := 0) hC (dX12_weakest_27) kc_0 ?_
    refine g_istore (i := 4) (lv2 := [(4, .int 0), (3, .int 0), (2, .int (-1)), (1, .int r1), (0, .ref 36)]) hC (dX12_weakest_28) (by decide) rfl ?_
    refine g_sub (lv' := [(0, .ref 36), (1, .int r1), (2, .int (-1)), (3, .int 0), (4, .int 0)]) [4, 3, 2, 1, 0] rfl ?_
    refine wpO_bJ h (fun KL30 hKL30 h => ?_)
    refine lX12_weakest_30 (K1 := KL30) hC (by omega) r1 M2 (fun x2_105 x3_105 h => ?_) _ _ _ _ h
    have h := hKL30 _ h
    have h := wpO_p h
    refine g_aload_n (i := 0) (x := 36) hC (dX12_weakest_105) rfl rfl ?_
    refine g_iconst (v := 0) hC (dX12_weakest_106) kc_0 ?_
    refine g_putI hC fpX12_89 (dX12_weakest_107) rfl rfl rfl rfl ?_
    refine g_nmM (fun M107 e_M107 => ?_)
    have h := wpO_n e_M107 h
    refine g_aload_n (i := 0) (x := 36) hC (dX12_weakest_110) rfl rfl ?_
    refine g_iload_n (i := 3) (x := x3_105) hC (dX12_weakest_111) rfl rfl ?_
    refine g_i2l hC (dX12_weakest_112) ?_
    have h := wpO_b h
    refine g_callVv ([.long x3_105.toInt64]) hC wvX12_280 (dX12_weakest_113) rfl rfl (by omega) (Nat.le_of_ble_eq_true rfl) (cX12_tell_ok (by omega) x3_105.toInt64 M107 h) (fun M113 h => ?_)
    refine g_iload_n (i := 2) (x := x2_105) hC (dX12_weakest_116) rfl rfl ?_
    refine g_ireturn hC hr (dX12_weakest_117) ?_
    exact wpO_s h
  · have h := wpO_t c17 h
    refine g_bipush (v := (-2)) hC (dX12_weakest_20) kb_m2 ?_
    refine g_ireturn hC hr (dX12_weakest_22) ?_
    exact wpO_s h
/-! LostByStateModel.worth(I)I -/
theorem dX12_worth_0 : decode cX12_worth 0 = .ok (.aload_n 0, 1) := by decide +kernel
theorem dX12_worth_1 : decode cX12_worth 1 = .ok (.iconst 0, 1) := by decide +kernel
theorem dX12_worth_2 : decode cX12_worth 2 = .ok (.putfield 86, 3) := by decide +kernel
theorem dX12_worth_5 : decode cX12_worth 5 = .ok (.aload_n 0, 1) := by decide +kernel
theorem dX12_worth_6 : decode cX12_worth 6 = .ok (.iload_n 1, 1) := by decide +kernel
theorem dX12_worth_7 : decode cX12_worth 7 = .ok (.invokevirtual 220, 3) := by decide +kernel
theorem dX12_worth_10 : decode cX12_worth 10 = .ok (.ifCond .ne 5, 3) := by decide +kernel
theorem dX12_worth_13 : decode cX12_worth 13 = .ok (.iconst (-1), 1) := by decide +kernel
theorem dX12_worth_14 : decode cX12_worth 14 = .ok (.ireturn, 1) := by decide +kernel
theorem dX12_worth_15 : decode cX12_worth 15 = .ok (.iconst 0, 1) := by decide +kernel
theorem dX12_worth_16 : decode cX12_worth 16 = .ok (.istore_n 2, 1) := by decide +kernel
theorem dX12_worth_17 : decode cX12_worth 17 = .ok (.iconst 0, 1) := by decide +kernel
theorem dX12_worth_18 : decode cX12_worth 18 = .ok (.istore_n 3, 1) := by decide +kernel
theorem dX12_worth_19 : decode cX12_worth 19 = .ok (.iload_n 3, 1) := by decide +kernel
theorem dX12_worth_20 : decode cX12_worth 20 = .ok (.aload_n 0, 1) := by decide +kernel
theorem dX12_worth_21 : decode cX12_worth 21 = .ok (.getfield 99, 3) := by decide +kernel
theorem dX12_worth_24 : decode cX12_worth 24 = .ok (.if_icmp .ge 42, 3) := by decide +kernel
theorem dX12_worth_27 : decode cX12_worth 27 = .ok (.iload_n 2, 1) := by decide +kernel
theorem dX12_worth_28 : decode cX12_worth 28 = .ok (.aload_n 0, 1) := by decide +kernel
theorem dX12_worth_29 : decode cX12_worth 29 = .ok (.getfield 26, 3) := by decide +kernel
theorem dX12_worth_32 : decode cX12_worth 32 = .ok (.iload_n 3, 1) := by decide +kernel
theorem dX12_worth_33 : decode cX12_worth 33 = .ok (.iaload, 1) := by decide +kernel
theorem dX12_worth_34 : decode cX12_worth 34 = .ok (.iload_n 1, 1) := by decide +kernel
theorem dX12_worth_35 : decode cX12_worth 35 = .ok (.invokestatic 216, 3) := by decide +kernel
theorem dX12_worth_38 : decode cX12_worth 38 = .ok (.ifCond .eq 19, 3) := by decide +kernel
theorem dX12_worth_41 : decode cX12_worth 41 = .ok (.sipush 840, 3) := by decide +kernel
theorem dX12_worth_44 : decode cX12_worth 44 = .ok (.aload_n 0, 1) := by decide +kernel
theorem dX12_worth_45 : decode cX12_worth 45 = .ok (.getfield 26, 3) := by decide +kernel
theorem dX12_worth_48 : decode cX12_worth 48 = .ok (.iload_n 3, 1) := by decide +kernel
theorem dX12_worth_49 : decode cX12_worth 49 = .ok (.iaload, 1) := by decide +kernel
theorem dX12_worth_50 : decode cX12_worth 50 = .ok (.invokestatic 196, 3) := by decide +kernel
theorem dX12_worth_53 : decode cX12_worth 53 = .ok (.idiv, 1) := by decide +kernel
theorem dX12_worth_54 : decode cX12_worth 54 = .ok (.goto 4, 3) := by decide +kernel
theorem dX12_worth_57 : decode cX12_worth 57 = .ok (.iconst 0, 1) := by decide +kernel
theorem dX12_worth_58 : decode cX12_worth 58 = .ok (.iadd, 1) := by decide +kernel
theorem dX12_worth_59 : decode cX12_worth 59 = .ok (.istore_n 2, 1) := by decide +kernel
theorem dX12_worth_60 : decode cX12_worth 60 = .ok (.iinc 3 1, 3) := by decide +kernel
theorem dX12_worth_63 : decode cX12_worth 63 = .ok (.goto (-44), 3) := by decide +kernel
theorem dX12_worth_66 : decode cX12_worth 66 = .ok (.aload_n 0, 1) := by decide +kernel
theorem dX12_worth_67 : decode cX12_worth 67 = .ok (.iload_n 2, 1) := by decide +kernel
theorem dX12_worth_68 : decode cX12_worth 68 = .ok (.i2l, 1) := by decide +kernel
theorem dX12_worth_69 : decode cX12_worth 69 = .ok (.ldc2_w 337, 3) := by decide +kernel
theorem dX12_worth_72 : decode cX12_worth 72 = .ok (.invokevirtual 330, 3) := by decide +kernel
theorem dX12_worth_75 : decode cX12_worth 75 = .ok (.iconst 0, 1) := by decide +kernel
theorem dX12_worth_76 : decode cX12_worth 76 = .ok (.ireturn, 1) := by decide +kernel
def fX12_worth_L19 (x1 : Int32) (M : zM) : Nat → Int32 → Int32 → Option Int32
  | 0, _, _ => none
  | n + 1, x2, x3 => if (M.1 36 2) ≤ x3 then (
    some x2)
    else (
    if zin x3 6 then (
    (if (fX12_has (M.1 40 x3.toNatClampNeg) x1) = 0 then (
    some 0)
    else (
    if ¬ (fJ6_bitCount_0f7a4 (M.1 40 x3.toNatClampNeg)) = 0 then (
    some (840 / (fJ6_bitCount_0f7a4 (M.1 40 x3.toNatClampNeg)))) else none) : Option Int32).bind fun (s0_58 : Int32) =>
    zlet (x2 + s0_58) fun (x2_59 : Int32) =>
    fX12_worth_L19 x1 M n x2_59 (x3 + 1)) else none)
def fX12_worth (x1 : Int32) (M : zM) : Option (Int32 × zM) := zlet (zSI M 36 12 0) fun (M2 : zM) =>
  if (fX12_isThing x1 M2) = 0 then (
  some ((-1), M2))
  else (
  (fX12_worth_L19 x1 M2 4000 0 0).bind fun (x2_66 : Int32) =>
  (fX12_tellPart x2_66.toInt64 840 M2).bind fun (M72 : zM) =>
  some (0, M72))
set_option maxHeartbeats 4000000 in
theorem lX12_worth_19 {E : zE} {Γ : zT} {d : Nat} {K1 : Int32 → Prop} (hC : Cx E Γ RX12 cX12_worth 4 d) (hd : 103 ≤ d) (x1 : Int32) (M : zM) (hx : ∀ (x2_66 : Int32), K1 x2_66 → G E Γ 4 66 [(0, .ref 36), (2, .int x2_66)] [] M) :
    ∀ (n : Nat) (x2 : Int32) (x3 : Int32), wpO (fX12_worth_L19 x1 M n x2 x3) K1 → G E Γ 4 19 [(0, .ref 36), (1, .int x1), (2, .int x2), (3, .int x3)] [] M := by
  intro n
  induction n with
  | zero =>
    intro x2 x3 h
    exact (wpO_0 h).elim
  | succ n ih =>
    intro x2 x3 h
    rw [fX12_worth_L19.eq_2] at h
    refine g_iload_n (i := 3) (x := x3) hC (dX12_worth_19) rfl rfl ?_
    refine g_aload_n (i := 0) (x := 36) hC (dX12_worth_20) rfl rfl ?_
    refine g_getI hC flX12_99 (dX12_worth_21) rfl rfl ?_
    refine g_icmp_ge (tgt := 66) hC (dX12_worth_24) (by decide) (fun c24 => ?_) (fun c24 => ?_)
    · have h := wpO_t c24 h
      refine g_sub (lv' := [(0, .ref 36), (2, .int x2)]) [0, 2] rfl ?_
      exact hx _ (wpO_s h)
    · have h := wpO_f c24 h
      refine g_iload_n (i := 2) (x := x2) hC (dX12_worth_27) rfl rfl ?_
      refine g_aload_n (i := 0) (x := 36) hC (dX12_worth_28) rfl rfl ?_
      refine g_getR (r := 40) hC flX12_26 (dX12_worth_29) rfl rfl rfl ?_
      refine g_iload_n (i := 3) (x := x3) hC (dX12_worth_32) rfl rfl ?_
      obtain ⟨q2, h⟩ := wpO_g h
      refine g_iaload (n := 6) hC (dX12_worth_33) rfl q2 ?_
      refine g_iload_n (i := 1) (x := x1) hC (dX12_worth_34) rfl rfl ?_
      refine g_callSi ([.int (M.1 40 x3.toNatClampNeg), .int x1]) hC wsX12_216 (dX12_worth_35) rfl (by omega) (Nat.le_of_ble_eq_true rfl) (cX12_has_ok (by omega) (M.1 40 x3.toNatClampNeg) x1 M (K := fun r => r = fX12_has (M.1 40 x3.toNatClampNeg) x1) rfl) (fun r N q => ?_)
      obtain ⟨rfl, rfl⟩ := q
      refine wpO_bJ h (fun KJ4 hKJ4 h => ?_)
      have hJ4 : ∀ (s0_58 : Int32), KJ4 s0_58 → G E Γ 4 58 [(0, .ref 36), (1, .int x1), (3, .int x3)] [.int s0_58, .int x2] M := by
        intro s0_58 h
        have h := hKJ4 _ h
        refine g_iadd hC (dX12_worth_58) ?_
        refine g_nmi (fun x2_59 e_x2_59 => ?_)
        have h := wpO_n e_x2_59 h
        refine g_istore_n (i := 2) (lv2 := [(2, .int x2_59), (0, .ref 36), (1, .int x1), (3, .int x3)]) hC (dX12_worth_59) rfl (by decide) rfl ?_
        refine g_iinc (x := x3) (v := (x3 + 1)) (lv2 := [(3, .int (x3 + 1)), (2, .int x2_59), (0, .ref 36), (1, .int x1)]) hC (dX12_worth_60) rfl rfl (by decide) rfl ?_
        refine g_goto (tgt := 19) hC (dX12_worth_63) (by decide) ?_
        refine g_sub (lv' := [(0, .ref 36), (1, .int x1), (2, .int x2_59), (3, .int (x3 + 1))]) [2, 3, 1, 0] rfl ?_
        exact ih _ _ h
      refine g_if_eq (tgt := 57) hC (dX12_worth_38) (by decide) (fun c38 => ?_) (fun c38 => ?_)
      · have h := wpO_t c38 h
        refine g_iconst (v := 0) hC (dX12_worth_57) kc_0 ?_
        refine g_sub (lv' := [(0, .ref 36), (1, .int x1), (3, .int x3)]) [0, 1, 3] rfl ?_
        exact hJ4 _ (wpO_s h)
      · have h := wpO_f c38 h
        refine g_sipush (v := 840) hC (dX12_worth_41) ks_840 ?_
        refine g_aload_n (i := 0) (x := 36) hC (dX12_worth_44) rfl rfl ?_
        refine g_getR (r := 40) hC flX12_26 (dX12_worth_45) rfl rfl rfl ?_
        refine g_iload_n (i := 3) (x := x3) hC (dX12_worth_48) rfl rfl ?_
        refine g_iaload (n := 6) hC (dX12_worth_49) rfl q2 ?_
        refine g_callSi ([.int (M.1 40 x3.toNatClampNeg)]) hC wsX12_196 (dX12_worth_50) rfl (by omega) (Nat.le_of_ble_eq_true rfl) (cJ6_bitCount_0f7a4_ok (by omega) (M.1 40 x3.toNatClampNeg) M (K := fun r => r = fJ6_bitCount_0f7a4 (M.1 40 x3.toNatClampNeg)) rfl) (fun r N q => ?_)
        obtain ⟨rfl, rfl⟩ := q
        obtain ⟨q6, h⟩ := wpO_g h
        refine g_idiv hC (dX12_worth_53) q6 ?_
        refine g_goto (tgt := 58) hC (dX12_worth_54) (by decide) ?_
        refine g_sub (lv' := [(0, .ref 36), (1, .int x1), (3, .int x3)]) [0, 1, 3] rfl ?_
        exact hJ4 _ (wpO_s h)
set_option maxHeartbeats 4000000 in
theorem cX12_worth_ok {E : zE} {d : Nat} (hd : 103 ≤ d) (x1 : Int32) (M : zM) {K : (Int32 × zM) → Prop} (h : wpO (fX12_worth x1 M) K) : CMi E d yX12_worth cX12_worth 4 (some .int) [.ref 36, .int x1] M (fun r N => K (r, N)) := by
  refine CMi.of (by decide) (Nat.le_of_ble_eq_true rfl) (fun Γ hC hr => ?_)
  have hC : Cx E Γ RX12 cX12_worth 4 d := hC
  show G E Γ 4 0 [(0, .ref 36), (1, .int x1)] [] M
  unfold fX12_worth at h
  refine g_aload_n (i := 0) (x := 36) hC (dX12_worth_0) rfl rfl ?_
  refine g_iconst (v := 0) hC (dX12_worth_1) kc_0 ?_
  refine g_putI hC fpX12_86 (dX12_worth_2) rfl rfl rfl rfl ?_
  refine g_nmM (fun M2 e_M2 => ?_)
  have h := wpO_n e_M2 h
  refine g_aload_n (i := 0) (x := 36) hC (dX12_worth_5) rfl rfl ?_
  refine g_iload_n (i := 1) (x := x1) hC (dX12_worth_6) rfl rfl ?_
  refine g_callVi ([.int x1]) hC wvX12_220 (dX12_worth_7) rfl rfl (by omega) (Nat.le_of_ble_eq_true rfl) (cX12_isThing_ok (by omega) x1 M2 (K := fun r => r = fX12_isThing x1 M2) rfl) (fun r N q => ?_)
  obtain ⟨rfl, rfl⟩ := q
  refine g_if_ne (tgt := 15) hC (dX12_worth_10) (by decide) (fun c10 => ?_) (fun c10 => ?_)
  · have h := wpO_f c10 h
    refine g_iconst (v := 0) hC (dX12_worth_15) kc_0 ?_
    refine g_istore_n (i := 2) (lv2 := [(2, .int 0), (0, .ref 36), (1, .int x1)]) hC (dX12_worth_16) rfl (by decide) rfl ?_
    refine g_iconst (v := 0) hC (dX12_worth_17) kc_0 ?_
    refine g_istore_n (i := 3) (lv2 := [(3, .int 0), (2, .int 0), (0, .ref 36), (1, .int x1)]) hC (dX12_worth_18) rfl (by decide) rfl ?_
    refine g_sub (lv' := [(0, .ref 36), (1, .int x1), (2, .int 0), (3, .int 0)]) [2, 3, 1, 0] rfl ?_
    refine wpO_bJ h (fun KL19 hKL19 h => ?_)
    refine lX12_worth_19 (K1 := KL19) hC (by omega) x1 M2 (fun x2_66 h => ?_) _ _ _ h
    have h := hKL19 _ h
    refine g_aload_n (i := 0) (x := 36) hC (dX12_worth_66) rfl rfl ?_
    refine g_iload_n (i := 2) (x := x2_66) hC (dX12_worth_67) rfl rfl ?_
    refine g_i2l hC (dX12_worth_68) ?_
    refine g_ldc2_w (v := 840) hC m_1600 (dX12_worth_69) ?_
    have h := wpO_b h
    refine g_callVv ([.long x2_66.toInt64, .long 840]) hC wvX12_330 (dX12_worth_72) rfl rfl (by omega) (Nat.le_of_ble_eq_true rfl) (cX12_tellPart_ok (by omega) x2_66.toInt64 840 M2 h) (fun M72 h => ?_)
    refine g_iconst (v := 0) hC (dX12_worth_75) kc_0 ?_
    refine g_ireturn hC hr (dX12_worth_76) ?_
    exact wpO_s h
  · have h := wpO_t c10 h
    refine g_iconst (v := (-1)) hC (dX12_worth_13) kc_m1 ?_
    refine g_ireturn hC hr (dX12_worth_14) ?_
    exact wpO_s h
/-! LostByStateModel.hangs(I)I -/
theorem dX12_hangs_0 : decode cX12_hangs 0 = .ok (.aload_n 0, 1) := by decide +kernel
theorem dX12_hangs_1 : decode cX12_hangs 1 = .ok (.iconst 0, 1) := by decide +kernel
theorem dX12_hangs_2 : decode cX12_hangs 2 = .ok (.putfield 86, 3) := by decide +kernel
theorem dX12_hangs_5 : decode cX12_hangs 5 = .ok (.aload_n 0, 1) := by decide +kernel
theorem dX12_hangs_6 : decode cX12_hangs 6 = .ok (.iload_n 1, 1) := by decide +kernel
theorem dX12_hangs_7 : decode cX12_hangs 7 = .ok (.invokevirtual 230, 3) := by decide +kernel
theorem dX12_hangs_10 : decode cX12_hangs 10 = .ok (.ifCond .ne 5, 3) := by decide +kernel
theorem dX12_hangs_13 : decode cX12_hangs 13 = .ok (.iconst (-1), 1) := by decide +kernel
theorem dX12_hangs_14 : decode cX12_hangs 14 = .ok (.ireturn, 1) := by decide +kernel
theorem dX12_hangs_15 : decode cX12_hangs 15 = .ok (.iconst 1, 1) := by decide +kernel
theorem dX12_hangs_16 : decode cX12_hangs 16 = .ok (.iload_n 1, 1) := by decide +kernel
theorem dX12_hangs_17 : decode cX12_hangs 17 = .ok (.ishl, 1) := by decide +kernel
theorem dX12_hangs_18 : decode cX12_hangs 18 = .ok (.istore_n 2, 1) := by decide +kernel
theorem dX12_hangs_19 : decode cX12_hangs 19 = .ok (.aload_n 0, 1) := by decide +kernel
theorem dX12_hangs_20 : decode cX12_hangs 20 = .ok (.getfield 26, 3) := by decide +kernel
theorem dX12_hangs_23 : decode cX12_hangs 23 = .ok (.iload_n 1, 1) := by decide +kernel
theorem dX12_hangs_24 : decode cX12_hangs 24 = .ok (.iaload, 1) := by decide +kernel
theorem dX12_hangs_25 : decode cX12_hangs 25 = .ok (.istore_n 3, 1) := by decide +kernel
theorem dX12_hangs_26 : decode cX12_hangs 26 = .ok (.iconst 0, 1) := by decide +kernel
theorem dX12_hangs_27 : decode cX12_hangs 27 = .ok (.istore 4, 2) := by decide +kernel
theorem dX12_hangs_29 : decode cX12_hangs 29 = .ok (.iload 4, 2) := by decide +kernel
theorem dX12_hangs_31 : decode cX12_hangs 31 = .ok (.bipush 6, 2) := by decide +kernel
theorem dX12_hangs_33 : decode cX12_hangs 33 = .ok (.if_icmp .ge 59, 3) := by decide +kernel
theorem dX12_hangs_36 : decode cX12_hangs 36 = .ok (.iconst 0, 1) := by decide +kernel
theorem dX12_hangs_37 : decode cX12_hangs 37 = .ok (.istore 5, 2) := by decide +kernel
theorem dX12_hangs_39 : decode cX12_hangs 39 = .ok (.iload 5, 2) := by decide +kernel
theorem dX12_hangs_41 : decode cX12_hangs 41 = .ok (.aload_n 0, 1) := by decide +kernel
theorem dX12_hangs_42 : decode cX12_hangs 42 = .ok (.getfield 99, 3) := by decide +kernel
theorem dX12_hangs_45 : decode cX12_hangs 45 = .ok (.if_icmp .ge 41, 3) := by decide +kernel
theorem dX12_hangs_48 : decode cX12_hangs 48 = .ok (.aload_n 0, 1) := by decide +kernel
theorem dX12_hangs_49 : decode cX12_hangs 49 = .ok (.getfield 26, 3) := by decide +kernel
theorem dX12_hangs_52 : decode cX12_hangs 52 = .ok (.iload 5, 2) := by decide +kernel
theorem dX12_hangs_54 : decode cX12_hangs 54 = .ok (.iaload, 1) := by decide +kernel
theorem dX12_hangs_55 : decode cX12_hangs 55 = .ok (.iload_n 3, 1) := by decide +kernel
theorem dX12_hangs_56 : decode cX12_hangs 56 = .ok (.iand, 1) := by decide +kernel
theorem dX12_hangs_57 : decode cX12_hangs 57 = .ok (.ifCond .ne 6, 3) := by decide +kernel
theorem dX12_hangs_60 : decode cX12_hangs 60 = .ok (.goto 20, 3) := by decide +kernel
theorem dX12_hangs_63 : decode cX12_hangs 63 = .ok (.iload_n 2, 1) := by decide +kernel
theorem dX12_hangs_64 : decode cX12_hangs 64 = .ok (.iconst 1, 1) := by decide +kernel
theorem dX12_hangs_65 : decode cX12_hangs 65 = .ok (.iload 5, 2) := by decide +kernel
theorem dX12_hangs_67 : decode cX12_hangs 67 = .ok (.ishl, 1) := by decide +kernel
theorem dX12_hangs_68 : decode cX12_hangs 68 = .ok (.ior, 1) := by decide +kernel
theorem dX12_hangs_69 : decode cX12_hangs 69 = .ok (.istore_n 2, 1) := by decide +kernel
theorem dX12_hangs_70 : decode cX12_hangs 70 = .ok (.iload_n 3, 1) := by decide +kernel
theorem dX12_hangs_71 : decode cX12_hangs 71 = .ok (.aload_n 0, 1) := by decide +kernel
theorem dX12_hangs_72 : decode cX12_hangs 72 = .ok (.getfield 26, 3) := by decide +kernel
theorem dX12_hangs_75 : decode cX12_hangs 75 = .ok (.iload 5, 2) := by decide +kernel
theorem dX12_hangs_77 : decode cX12_hangs 77 = .ok (.iaload, 1) := by decide +kernel
theorem dX12_hangs_78 : decode cX12_hangs 78 = .ok (.ior, 1) := by decide +kernel
theorem dX12_hangs_79 : decode cX12_hangs 79 = .ok (.istore_n 3, 1) := by decide +kernel
theorem dX12_hangs_80 : decode cX12_hangs 80 = .ok (.iinc 5 1, 3) := by decide +kernel
theorem dX12_hangs_83 : decode cX12_hangs 83 = .ok (.goto (-44), 3) := by decide +kernel
theorem dX12_hangs_86 : decode cX12_hangs 86 = .ok (.iinc 4 1, 3) := by decide +kernel
theorem dX12_hangs_89 : decode cX12_hangs 89 = .ok (.goto (-60), 3) := by decide +kernel
theorem dX12_hangs_92 : decode cX12_hangs 92 = .ok (.aload_n 0, 1) := by decide +kernel
theorem dX12_hangs_93 : decode cX12_hangs 93 = .ok (.iconst 0, 1) := by decide +kernel
theorem dX12_hangs_94 : decode cX12_hangs 94 = .ok (.putfield 89, 3) := by decide +kernel
theorem dX12_hangs_97 : decode cX12_hangs 97 = .ok (.aload_n 0, 1) := by decide +kernel
theorem dX12_hangs_98 : decode cX12_hangs 98 = .ok (.iload_n 3, 1) := by decide +kernel
theorem dX12_hangs_99 : decode cX12_hangs 99 = .ok (.i2l, 1) := by decide +kernel
theorem dX12_hangs_100 : decode cX12_hangs 100 = .ok (.invokevirtual 280, 3) := by decide +kernel
theorem dX12_hangs_103 : decode cX12_hangs 103 = .ok (.iload_n 2, 1) := by decide +kernel
theorem dX12_hangs_104 : decode cX12_hangs 104 = .ok (.ireturn, 1) := by decide +kernel
def fX12_hangs_L39 (x4 : Int32) (M : zM) : Nat → Int32 → Int32 → Int32 → Option (Int32 × Int32)
  | 0, _, _, _ => none
  | n + 1, x2, x3, x5 => if (M.1 36 2) ≤ x5 then (
    some (x2, x3))
    else (
    if zin x5 6 then (
    zlet (if ((M.1 40 x5.toNatClampNeg) &&& x3) = 0 then (
    x2)
    else (
    zlet (x2 ||| (zshl 1 x5)) fun (x2_69 : Int32) =>
    zlet (x3 ||| (M.1 40 x5.toNatClampNeg)) fun (x3_79 : Int32) =>
    x2_69)) fun (x2_80 : Int32) =>
    zlet (if ((M.1 40 x5.toNatClampNeg) &&& x3) = 0 then (
    x3)
    else (
    zlet (x2 ||| (zshl 1 x5)) fun (x2_69 : Int32) =>
    zlet (x3 ||| (M.1 40 x5.toNatClampNeg)) fun (x3_79 : Int32) =>
    x3_79)) fun (x3_80 : Int32) =>
    fX12_hangs_L39 x4 M n x2_80 x3_80 (x5 + 1)) else none)
def fX12_hangs_L29 (M : zM) : Nat → Int32 → Int32 → Int32 → Option (Int32 × Int32)
  | 0, _, _, _ => none
  | n + 1, x2, x3, x4 => if 6 ≤ x4 then (
    some (x2, x3))
    else (
    (fX12_hangs_L39 x4 M 4000 x2 x3 0).bind fun (q : Int32 × Int32) => zp q fun x2_86 x3_86 =>
    fX12_hangs_L29 M n x2_86 x3_86 (x4 + 1))
def fX12_hangs (x1 : Int32) (M : zM) : Option (Int32 × zM) := zlet (zSI M 36 12 0) fun (M2 : zM) =>
  if (fX12_isDeed x1 M2) = 0 then (
  some ((-1), M2))
  else (
  zlet (zshl 1 x1) fun (x2_18 : Int32) =>
  if zin x1 6 then (
  zlet (M2.1 40 x1.toNatClampNeg) fun (x3_25 : Int32) =>
  (fX12_hangs_L29 M2 4000 x2_18 x3_25 0).bind fun (q : Int32 × Int32) => zp q fun x2_92 x3_92 =>
  zlet (zSI M2 36 11 0) fun (M94 : zM) =>
  (fX12_tell x3_92.toInt64 M94).bind fun (M100 : zM) =>
  some (x2_92, M100)) else none)
set_option maxHeartbeats 4000000 in
theorem lX12_hangs_39 {E : zE} {Γ : zT} {d : Nat} {K1 : (Int32 × Int32) → Prop} (hC : Cx E Γ RX12 cX12_hangs 6 d) (hd : 2 ≤ d) (x4 : Int32) (M : zM) (hx : ∀ (x2_86 : Int32) (x3_86 : Int32), K1 (x2_86, x3_86) → G E Γ 6 86 [(0, .ref 36), (2, .int x2_86), (3, .int x3_86), (4, .int x4)] [] M) :
    ∀ (n : Nat) (x2 : Int32) (x3 : Int32) (x5 : Int32), wpO (fX12_hangs_L39 x4 M n x2 x3 x5) K1 → G E Γ 6 39 [(0, .ref 36), (2, .int x2), (3, .int x3), (4, .int x4), (5, .int x5)] [] M := by
  intro n
  induction n with
  | zero =>
    intro x2 x3 x5 h
    exact (wpO_0 h).elim
  | succ n ih =>
    intro x2 x3 x5 h
    rw [fX12_hangs_L39.eq_2] at h
    refine g_iload (i := 5) (x := x5) hC (dX12_hangs_39) rfl ?_
    refine g_aload_n (i := 0) (x := 36) hC (dX12_hangs_41) rfl rfl ?_
    refine g_getI hC flX12_99 (dX12_hangs_42) rfl rfl ?_
    refine g_icmp_ge (tgt := 86) hC (dX12_hangs_45) (by decide) (fun c45 => ?_) (fun c45 => ?_)
    · have h := wpO_t c45 h
      refine g_sub (lv' := [(0, .ref 36), (2, .int x2), (3, .int x3), (4, .int x4)]) [0, 1, 2, 3] rfl ?_
      exact hx _ _ (wpO_s h)
    · have h := wpO_f c45 h
      refine g_aload_n (i := 0) (x := 36) hC (dX12_hangs_48) rfl rfl ?_
      refine g_getR (r := 40) hC flX12_26 (dX12_hangs_49) rfl rfl rfl ?_
      refine g_iload (i := 5) (x := x5) hC (dX12_hangs_52) rfl ?_
      obtain ⟨q3, h⟩ := wpO_g h
      refine g_iaload (n := 6) hC (dX12_hangs_54) rfl q3 ?_
      refine g_iload_n (i := 3) (x := x3) hC (dX12_hangs_55) rfl rfl ?_
      refine g_iand hC (dX12_hangs_56) ?_
      obtain ⟨x2_80, e_x2_80, h⟩ := wpO_l h
      obtain ⟨x3_80, e_x3_80, h⟩ := wpO_l h
      have hJ4 : G E Γ 6 80 [(0, .ref 36), (2, .int x2_80), (3, .int x3_80), (4, .int x4), (5, .int x5)] [] M := by
        refine g_iinc (x := x5) (v := (x5 + 1)) (lv2 := [(5, .int (x5 + 1)), (0, .ref 36), (2, .int x2_80), (3, .int x3_80), (4, .int x4)]) hC (dX12_hangs_80) rfl rfl (by decide) rfl ?_
        refine g_goto (tgt := 39) hC (dX12_hangs_83) (by decide) ?_
        refine g_sub (lv' := [(0, .ref 36), (2, .int x2_80), (3, .int x3_80), (4, .int x4), (5, .int (x5 + 1))]) [1, 2, 3, 4, 0] rfl ?_
        exact ih _ _ _ h
      refine g_if_ne (tgt := 63) hC (dX12_hangs_57) (by decide) (fun c57 => ?_) (fun c57 => ?_)
      · rw [if_neg c57] at e_x2_80 e_x3_80
        refine g_iload_n (i := 2) (x := x2) hC (dX12_hangs_63) rfl rfl ?_
        refine g_iconst (v := 1) hC (dX12_hangs_64) kc_1 ?_
        refine g_iload (i := 5) (x := x5) hC (dX12_hangs_65) rfl ?_
        refine g_ishl hC (dX12_hangs_67) ?_
        refine g_ior hC (dX12_hangs_68) ?_
        refine g_nmi (fun x2_69 e_x2_69 => ?_)
        have e_x2_80 := zle e_x2_69 e_x2_80
        have e_x3_80 := zle e_x2_69 e_x3_80
        refine g_istore_n (i := 2) (lv2 := [(2, .int x2_69), (0, .ref 36), (3, .int x3), (4, .int x4), (5, .int x5)]) hC (dX12_hangs_69) rfl (by decide) rfl ?_
        refine g_iload_n (i := 3) (x := x3) hC (dX12_hangs_70) rfl rfl ?_
        refine g_aload_n (i := 0) (x := 36) hC (dX12_hangs_71) rfl rfl ?_
        refine g_getR (r := 40) hC flX12_26 (dX12_hangs_72) rfl rfl rfl ?_
        refine g_iload (i := 5) (x := x5) hC (dX12_hangs_75) rfl ?_
        refine g_iaload (n := 6) hC (dX12_hangs_77) rfl q3 ?_
        refine g_ior hC (dX12_hangs_78) ?_
        refine g_nmi (fun x3_79 e_x3_79 => ?_)
        have e_x2_80 := zle e_x3_79 e_x2_80
        have e_x3_80 := zle e_x3_79 e_x3_80
        refine g_istore_n (i := 3) (lv2 := [(3, .int x3_79), (2, .int x2_69), (0, .ref 36), (4, .int x4), (5, .int x5)]) hC (dX12_hangs_79) rfl (by decide) rfl ?_
        refine g_sub (lv' := [(0, .ref 36), (2, .int x2_69), (3, .int x3_79), (4, .int x4), (5, .int x5)]) [2, 1, 0, 3, 4] rfl ?_
        subst e_x2_80
        subst e_x3_80
        exact hJ4
      · rw [if_pos c57] at e_x2_80 e_x3_80
        refine g_goto (tgt := 80) hC (dX12_hangs_60) (by decide) ?_
        subst e_x2_80
        subst e_x3_80
        exact hJ4
set_option maxHeartbeats 4000000 in
theorem lX12_hangs_29 {E : zE} {Γ : zT} {d : Nat} {K1 : (Int32 × Int32) → Prop} (hC : Cx E Γ RX12 cX12_hangs 6 d) (hd : 2 ≤ d) (M : zM) (hx : ∀ (x2_92 : Int32) (x3_92 : Int32), K1 (x2_92, x3_92) → G E Γ 6 92 [(0, .ref 36), (2, .int x2_92), (3, .int x3_92)] [] M) :
    ∀ (n : Nat) (x2 : Int32) (x3 : Int32) (x4 : Int32), wpO (fX12_hangs_L29 M n x2 x3 x4) K1 → G E Γ 6 29 [(0, .ref 36), (2, .int x2), (3, .int x3), (4, .int x4)] [] M := by
  intro n
  induction n with
  | zero =>
    intro x2 x3 x4 h
    exact (wpO_0 h).elim
  | succ n ih =>
    intro x2 x3 x4 h
    rw [fX12_hangs_L29.eq_2] at h
    refine g_iload (i := 4) (x := x4) hC (dX12_hangs_29) rfl ?_
    refine g_bipush (v := 6) hC (dX12_hangs_31) kb_6 ?_
    refine g_icmp_ge (tgt := 92) hC (dX12_hangs_33) (by decide) (fun c33 => ?_) (fun c33 => ?_)
    · have h := wpO_t c33 h
      refine g_sub (lv' := [(0, .ref 36), (2, .int x2), (3, .int x3)]) [0, 1, 2] rfl ?_
      exact hx _ _ (wpO_s h)
    · have h := wpO_f c33 h
      refine g_iconst (v := 0) hC (dX12_hangs_36) kc_0 ?_
      refine g_istore (i := 5) (lv2 := [(5, .int 0), (0, .ref 36), (2, .int x2), (3, .int x3), (4, .int x4)]) hC (dX12_hangs_37) (by decide) rfl ?_
      refine g_sub (lv' := [(0, .ref 36), (2, .int x2), (3, .int x3), (4, .int x4), (5, .int 0)]) [1, 2, 3, 4, 0] rfl ?_
      refine wpO_bJ h (fun KL39 hKL39 h => ?_)
      refine lX12_hangs_39 (K1 := KL39) hC (by omega) x4 M (fun x2_86 x3_86 h => ?_) _ _ _ _ h
      have h := hKL39 _ h
      have h := wpO_p h
      refine g_iinc (x := x4) (v := (x4 + 1)) (lv2 := [(4, .int (x4 + 1)), (0, .ref 36), (2, .int x2_86), (3, .int x3_86)]) hC (dX12_hangs_86) rfl rfl (by decide) rfl ?_
      refine g_goto (tgt := 29) hC (dX12_hangs_89) (by decide) ?_
      refine g_sub (lv' := [(0, .ref 36), (2, .int x2_86), (3, .int x3_86), (4, .int (x4 + 1))]) [1, 2, 3, 0] rfl ?_
      exact ih _ _ _ h
set_option maxHeartbeats 4000000 in
theorem cX12_hangs_ok {E : zE} {d : Nat} (hd : 2 ≤ d) (x1 : Int32) (M : zM) {K : (Int32 × zM) → Prop} (h : wpO (fX12_hangs x1 M) K) : CMi E d yX12_hangs cX12_hangs 6 (some .int) [.ref 36, .int x1] M (fun r N => K (r, N)) := by
  refine CMi.of (by decide) (Nat.le_of_ble_eq_true rfl) (fun Γ hC hr => ?_)
  have hC : Cx E Γ RX12 cX12_hangs 6 d := hC
  show G E Γ 6 0 [(0, .ref 36), (1, .int x1)] [] M
  unfold fX12_hangs at h
  refine g_aload_n (i := 0) (x := 36) hC (dX12_hangs_0) rfl rfl ?_
  refine g_iconst (v := 0) hC (dX12_hangs_1) kc_0 ?_
  refine g_putI hC fpX12_86 (dX12_hangs_2) rfl rfl rfl rfl ?_
  refine g_nmM (fun M2 e_M2 => ?_)
  have h := wpO_n e_M2 h
  refine g_aload_n (i := 0) (x := 36) hC (dX12_hangs_5) rfl rfl ?_
  refine g_iload_n (i := 1) (x := x1) hC (dX12_hangs_6) rfl rfl ?_
  refine g_callVi ([.int x1]) hC wvX12_230 (dX12_hangs_7) rfl rfl (by omega) (Nat.le_of_ble_eq_true rfl) (cX12_isDeed_ok (by omega) x1 M2 (K := fun r => r = fX12_isDeed x1 M2) rfl) (fun r N q => ?_)
  obtain ⟨rfl, rfl⟩ := q
  refine g_if_ne (tgt := 15) hC (dX12_hangs_10) (by decide) (fun c10 => ?_) (fun c10 => ?_)
  · have h := wpO_f c10 h
    refine g_iconst (v := 1) hC (dX12_hangs_15) kc_1 ?_
    refine g_iload_n (i := 1) (x := x1) hC (dX12_hangs_16) rfl rfl ?_
    refine g_ishl hC (dX12_hangs_17) ?_
    refine g_nmi (fun x2_18 e_x2_18 => ?_)
    have h := wpO_n e_x2_18 h
    refine g_istore_n (i := 2) (lv2 := [(2, .int x2_18), (0, .ref 36), (1, .int x1)]) hC (dX12_hangs_18) rfl (by decide) rfl ?_
    refine g_aload_n (i := 0) (x := 36) hC (dX12_hangs_19) rfl rfl ?_
    refine g_getR (r := 40) hC flX12_26 (dX12_hangs_20) rfl rfl rfl ?_
    refine g_iload_n (i := 1) (x := x1) hC (dX12_hangs_23) rfl rfl ?_
    obtain ⟨q2, h⟩ := wpO_g h
    refine g_iaload (n := 6) hC (dX12_hangs_24) rfl q2 ?_
    refine g_nmi (fun x3_25 e_x3_25 => ?_)
    have h := wpO_n e_x3_25 h
    refine g_istore_n (i := 3) (lv2 := [(3, .int x3_25), (2, .int x2_18), (0, .ref 36), (1, .int x1)]) hC (dX12_hangs_25) rfl (by decide) rfl ?_
    refine g_iconst (v := 0) hC (dX12_hangs_26) kc_0 ?_
    refine g_istore (i := 4) (lv2 := [(4, .int 0), (3, .int x3_25), (2, .int x2_18), (0, .ref 36), (1, .int x1)]) hC (dX12_hangs_27) (by decide) rfl ?_
    refine g_sub (lv' := [(0, .ref 36), (2, .int x2_18), (3, .int x3_25), (4, .int 0)]) [3, 2, 1, 0] rfl ?_
    refine wpO_bJ h (fun KL29 hKL29 h => ?_)
    refine lX12_hangs_29 (K1 := KL29) hC (by omega) M2 (fun x2_92 x3_92 h => ?_) _ _ _ _ h
    have h := hKL29 _ h
    have h := wpO_p h
    refine g_aload_n (i := 0) (x := 36) hC (dX12_hangs_92) rfl rfl ?_
    refine g_iconst (v := 0) hC (dX12_hangs_93) kc_0 ?_
    refine g_putI hC fpX12_89 (dX12_hangs_94) rfl rfl rfl rfl ?_
    refine g_nmM (fun M94 e_M94 => ?_)
    have h := wpO_n e_M94 h
    refine g_aload_n (i := 0) (x := 36) hC (dX12_hangs_97) rfl rfl ?_
    refine g_iload_n (i := 3) (x := x3_92) hC (dX12_hangs_98) rfl rfl ?_
    refine g_i2l hC (dX12_hangs_99) ?_
    have h := wpO_b h
    refine g_callVv ([.long x3_92.toInt64]) hC wvX12_280 (dX12_hangs_100) rfl rfl (by omega) (Nat.le_of_ble_eq_true rfl) (cX12_tell_ok (by omega) x3_92.toInt64 M94 h) (fun M100 h => ?_)
    refine g_iload_n (i := 2) (x := x2_92) hC (dX12_hangs_103) rfl rfl ?_
    refine g_ireturn hC hr (dX12_hangs_104) ?_
    exact wpO_s h
  · have h := wpO_t c10 h
    refine g_iconst (v := (-1)) hC (dX12_hangs_13) kc_m1 ?_
    refine g_ireturn hC hr (dX12_hangs_14) ?_
    exact wpO_s h
/-! LostByStateModel.power(JI)J -/
theorem dX12_power_0 : decode cX12_power 0 = .ok (.lconst 1, 1) := by decide +kernel
theorem dX12_power_1 : decode cX12_power 1 = .ok (.lstore_n 3, 1) := by decide +kernel
theorem dX12_power_2 : decode cX12_power 2 = .ok (.iconst 0, 1) := by decide +kernel
theorem dX12_power_3 : decode cX12_power 3 = .ok (.istore 5, 2) := by decide +kernel
theorem dX12_power_5 : decode cX12_power 5 = .ok (.iload 5, 2) := by decide +kernel
theorem dX12_power_7 : decode cX12_power 7 = .ok (.iload_n 2, 1) := by decide +kernel
theorem dX12_power_8 : decode cX12_power 8 = .ok (.if_icmp .ge 13, 3) := by decide +kernel
theorem dX12_power_11 : decode cX12_power 11 = .ok (.lload_n 3, 1) := by decide +kernel
theorem dX12_power_12 : decode cX12_power 12 = .ok (.lload_n 0, 1) := by decide +kernel
theorem dX12_power_13 : decode cX12_power 13 = .ok (.lmul, 1) := by decide +kernel
theorem dX12_power_14 : decode cX12_power 14 = .ok (.lstore_n 3, 1) := by decide +kernel
theorem dX12_power_15 : decode cX12_power 15 = .ok (.iinc 5 1, 3) := by decide +kernel
theorem dX12_power_18 : decode cX12_power 18 = .ok (.goto (-13), 3) := by decide +kernel
theorem dX12_power_21 : decode cX12_power 21 = .ok (.lload_n 3, 1) := by decide +kernel
theorem dX12_power_22 : decode cX12_power 22 = .ok (.lreturn, 1) := by decide +kernel
def fX12_power_L5 (x0 : Int64) (x2 : Int32) : Nat → Int64 → Int32 → Option Int64
  | 0, _, _ => none
  | n + 1, x3, x5 => if x2 ≤ x5 then (
    some x3)
    else (
    zlet (x3 * x0) fun (x3_14 : Int64) =>
    fX12_power_L5 x0 x2 n x3_14 (x5 + 1))
def fX12_power (x0 : Int64) (x2 : Int32) : Option Int64 := (fX12_power_L5 x0 x2 4000 1 0).bind fun (x3_21 : Int64) =>
  some x3_21
set_option maxHeartbeats 4000000 in
theorem lX12_power_5 {E : zE} {Γ : zT} {d : Nat} {K1 : Int64 → Prop} (hC : Cx E Γ RX12 cX12_power 6 d) (hd : 0 ≤ d) (x0 : Int64) (x2 : Int32) (M : zM) (hx : ∀ (x3_21 : Int64), K1 x3_21 → G E Γ 6 21 [(3, .long x3_21)] [] M) :
    ∀ (n : Nat) (x3 : Int64) (x5 : Int32), wpO (fX12_power_L5 x0 x2 n x3 x5) K1 → G E Γ 6 5 [(0, .long x0), (2, .int x2), (3, .long x3), (5, .int x5)] [] M := by
  intro n
  induction n with
  | zero =>
    intro x3 x5 h
    exact (wpO_0 h).elim
  | succ n ih =>
    intro x3 x5 h
    rw [fX12_power_L5.eq_2] at h
    refine g_iload (i := 5) (x := x5) hC (dX12_power_5) rfl ?_
    refine g_iload_n (i := 2) (x := x2) hC (dX12_power_7) rfl rfl ?_
    refine g_icmp_ge (tgt := 21) hC (dX12_power_8) (by decide) (fun c8 => ?_) (fun c8 => ?_)
    · have h := wpO_t c8 h
      refine g_sub (lv' := [(3, .long x3)]) [2] rfl ?_
      exact hx _ (wpO_s h)
    · have h := wpO_f c8 h
      refine g_lload_n (i := 3) (x := x3) hC (dX12_power_11) rfl rfl ?_
      refine g_lload_n (i := 0) (x := x0) hC (dX12_power_12) rfl rfl ?_
      refine g_lmul hC (dX12_power_13) ?_
      refine g_nml (fun x3_14 e_x3_14 => ?_)
      have h := wpO_n e_x3_14 h
      refine g_lstore_n (i := 3) (lv2 := [(3, .long x3_14), (0, .long x0), (2, .int x2), (5, .int x5)]) hC (dX12_power_14) rfl (by decide) rfl ?_
      refine g_iinc (x := x5) (v := (x5 + 1)) (lv2 := [(5, .int (x5 + 1)), (3, .long x3_14), (0, .long x0), (2, .int x2)]) hC (dX12_power_15) rfl rfl (by decide) rfl ?_
      refine g_goto (tgt := 5) hC (dX12_power_18) (by decide) ?_
      refine g_sub (lv' := [(0, .long x0), (2, .int x2), (3, .long x3_14), (5, .int (x5 + 1))]) [2, 3, 1, 0] rfl ?_
      exact ih _ _ h
set_option maxHeartbeats 4000000 in
theorem cX12_power_ok {E : zE} {d : Nat} (hd : 0 ≤ d) (x0 : Int64) (x2 : Int32) (M : zM) {K : Int64 → Prop} (h : wpO (fX12_power x0 x2) K) : CMl E d yX12_power cX12_power 6 (some .long) [.long x0, .int x2] M (fun r N => M = N ∧ K r) := by
  refine CMl.of (by decide) (Nat.le_of_ble_eq_true rfl) (fun Γ hC hr => ?_)
  have hC : Cx E Γ RX12 cX12_power 6 d := hC
  show G E Γ 6 0 [(0, .long x0), (2, .int x2)] [] M
  unfold fX12_power at h
  refine g_lconst (v := 1) hC (dX12_power_0) kl_1 ?_
  refine g_lstore_n (i := 3) (lv2 := [(3, .long 1), (0, .long x0), (2, .int x2)]) hC (dX12_power_1) rfl (by decide) rfl ?_
  refine g_iconst (v := 0) hC (dX12_power_2) kc_0 ?_
  refine g_istore (i := 5) (lv2 := [(5, .int 0), (3, .long 1), (0, .long x0), (2, .int x2)]) hC (dX12_power_3) (by decide) rfl ?_
  refine g_sub (lv' := [(0, .long x0), (2, .int x2), (3, .long 1), (5, .int 0)]) [2, 3, 1, 0] rfl ?_
  refine wpO_bJ h (fun KL5 hKL5 h => ?_)
  refine lX12_power_5 (K1 := KL5) hC (by omega) x0 x2 M (fun x3_21 h => ?_) _ _ _ h
  have h := hKL5 _ h
  refine g_lload_n (i := 3) (x := x3_21) hC (dX12_power_21) rfl rfl ?_
  refine g_lreturn hC hr (dX12_power_22) ?_
  exact ⟨rfl, wpO_s h⟩
/-! LostByStateModel.likely(II)I -/
theorem dX12_likely_0 : decode cX12_likely 0 = .ok (.aload_n 0, 1) := by decide +kernel
theorem dX12_likely_1 : decode cX12_likely 1 = .ok (.iconst 0, 1) := by decide +kernel
theorem dX12_likely_2 : decode cX12_likely 2 = .ok (.putfield 86, 3) := by decide +kernel
theorem dX12_likely_5 : decode cX12_likely 5 = .ok (.iload_n 1, 1) := by decide +kernel
theorem dX12_likely_6 : decode cX12_likely 6 = .ok (.iconst 0, 1) := by decide +kernel
theorem dX12_likely_7 : decode cX12_likely 7 = .ok (.bipush 6, 2) := by decide +kernel
theorem dX12_likely_9 : decode cX12_likely 9 = .ok (.invokestatic 95, 3) := by decide +kernel
theorem dX12_likely_12 : decode cX12_likely 12 = .ok (.ifCond .eq 13, 3) := by decide +kernel
theorem dX12_likely_15 : decode cX12_likely 15 = .ok (.iload_n 2, 1) := by decide +kernel
theorem dX12_likely_16 : decode cX12_likely 16 = .ok (.iconst 0, 1) := by decide +kernel
theorem dX12_likely_17 : decode cX12_likely 17 = .ok (.bipush 10, 2) := by decide +kernel
theorem dX12_likely_19 : decode cX12_likely 19 = .ok (.invokestatic 95, 3) := by decide +kernel
theorem dX12_likely_22 : decode cX12_likely 22 = .ok (.ifCond .ne 5, 3) := by decide +kernel
theorem dX12_likely_25 : decode cX12_likely 25 = .ok (.iconst (-1), 1) := by decide +kernel
theorem dX12_likely_26 : decode cX12_likely 26 = .ok (.ireturn, 1) := by decide +kernel
theorem dX12_likely_27 : decode cX12_likely 27 = .ok (.aload_n 0, 1) := by decide +kernel
theorem dX12_likely_28 : decode cX12_likely 28 = .ok (.aload_n 0, 1) := by decide +kernel
theorem dX12_likely_29 : decode cX12_likely 29 = .ok (.getfield 9, 3) := by decide +kernel
theorem dX12_likely_32 : decode cX12_likely 32 = .ok (.bipush 6, 2) := by decide +kernel
theorem dX12_likely_34 : decode cX12_likely 34 = .ok (.invokevirtual 213, 3) := by decide +kernel
theorem dX12_likely_37 : decode cX12_likely 37 = .ok (.istore_n 3, 1) := by decide +kernel
theorem dX12_likely_38 : decode cX12_likely 38 = .ok (.iload_n 3, 1) := by decide +kernel
theorem dX12_likely_39 : decode cX12_likely 39 = .ok (.invokestatic 196, 3) := by decide +kernel
theorem dX12_likely_42 : decode cX12_likely 42 = .ok (.istore 4, 2) := by decide +kernel
theorem dX12_likely_44 : decode cX12_likely 44 = .ok (.lconst 0, 1) := by decide +kernel
theorem dX12_likely_45 : decode cX12_likely 45 = .ok (.lstore 5, 2) := by decide +kernel
theorem dX12_likely_47 : decode cX12_likely 47 = .ok (.iconst 0, 1) := by decide +kernel
theorem dX12_likely_48 : decode cX12_likely 48 = .ok (.istore 7, 2) := by decide +kernel
theorem dX12_likely_50 : decode cX12_likely 50 = .ok (.iload 7, 2) := by decide +kernel
theorem dX12_likely_52 : decode cX12_likely 52 = .ok (.iload_n 3, 1) := by decide +kernel
theorem dX12_likely_53 : decode cX12_likely 53 = .ok (.if_icmp .gt 66, 3) := by decide +kernel
theorem dX12_likely_56 : decode cX12_likely 56 = .ok (.iload 7, 2) := by decide +kernel
theorem dX12_likely_58 : decode cX12_likely 58 = .ok (.iload_n 3, 1) := by decide +kernel
theorem dX12_likely_59 : decode cX12_likely 59 = .ok (.iconst (-1), 1) := by decide +kernel
theorem dX12_likely_60 : decode cX12_likely 60 = .ok (.ixor, 1) := by decide +kernel
theorem dX12_likely_61 : decode cX12_likely 61 = .ok (.iand, 1) := by decide +kernel
theorem dX12_likely_62 : decode cX12_likely 62 = .ok (.ifCond .ne 51, 3) := by decide +kernel
theorem dX12_likely_65 : decode cX12_likely 65 = .ok (.aload_n 0, 1) := by decide +kernel
theorem dX12_likely_66 : decode cX12_likely 66 = .ok (.iload 7, 2) := by decide +kernel
theorem dX12_likely_68 : decode cX12_likely 68 = .ok (.invokevirtual 284, 3) := by decide +kernel
theorem dX12_likely_71 : decode cX12_likely 71 = .ok (.invokestatic 196, 3) := by decide +kernel
theorem dX12_likely_74 : decode cX12_likely 74 = .ok (.iload_n 1, 1) := by decide +kernel
theorem dX12_likely_75 : decode cX12_likely 75 = .ok (.if_icmp .ge 6, 3) := by decide +kernel
theorem dX12_likely_78 : decode cX12_likely 78 = .ok (.goto 35, 3) := by decide +kernel
theorem dX12_likely_81 : decode cX12_likely 81 = .ok (.lload 5, 2) := by decide +kernel
theorem dX12_likely_83 : decode cX12_likely 83 = .ok (.bipush 10, 2) := by decide +kernel
theorem dX12_likely_85 : decode cX12_likely 85 = .ok (.iload_n 2, 1) := by decide +kernel
theorem dX12_likely_86 : decode cX12_likely 86 = .ok (.isub, 1) := by decide +kernel
theorem dX12_likely_87 : decode cX12_likely 87 = .ok (.i2l, 1) := by decide +kernel
theorem dX12_likely_88 : decode cX12_likely 88 = .ok (.iload 7, 2) := by decide +kernel
theorem dX12_likely_90 : decode cX12_likely 90 = .ok (.invokestatic 196, 3) := by decide +kernel
theorem dX12_likely_93 : decode cX12_likely 93 = .ok (.invokestatic 339, 3) := by decide +kernel
theorem dX12_likely_96 : decode cX12_likely 96 = .ok (.iload_n 2, 1) := by decide +kernel
theorem dX12_likely_97 : decode cX12_likely 97 = .ok (.i2l, 1) := by decide +kernel
theorem dX12_likely_98 : decode cX12_likely 98 = .ok (.iload 4, 2) := by decide +kernel
theorem dX12_likely_100 : decode cX12_likely 100 = .ok (.iload 7, 2) := by decide +kernel
theorem dX12_likely_102 : decode cX12_likely 102 = .ok (.invokestatic 196, 3) := by decide +kernel
theorem dX12_likely_105 : decode cX12_likely 105 = .ok (.isub, 1) := by decide +kernel
theorem dX12_likely_106 : decode cX12_likely 106 = .ok (.invokestatic 339, 3) := by decide +kernel
theorem dX12_likely_109 : decode cX12_likely 109 = .ok (.lmul, 1) := by decide +kernel
theorem dX12_likely_110 : decode cX12_likely 110 = .ok (.ladd, 1) := by decide +kernel
theorem dX12_likely_111 : decode cX12_likely 111 = .ok (.lstore 5, 2) := by decide +kernel
theorem dX12_likely_113 : decode cX12_likely 113 = .ok (.iinc 7 1, 3) := by decide +kernel
theorem dX12_likely_116 : decode cX12_likely 116 = .ok (.goto (-66), 3) := by decide +kernel
theorem dX12_likely_119 : decode cX12_likely 119 = .ok (.aload_n 0, 1) := by decide +kernel
theorem dX12_likely_120 : decode cX12_likely 120 = .ok (.lload 5, 2) := by decide +kernel
theorem dX12_likely_122 : decode cX12_likely 122 = .ok (.ldc2_w 343, 3) := by decide +kernel
theorem dX12_likely_125 : decode cX12_likely 125 = .ok (.iload 4, 2) := by decide +kernel
theorem dX12_likely_127 : decode cX12_likely 127 = .ok (.invokestatic 339, 3) := by decide +kernel
theorem dX12_likely_130 : decode cX12_likely 130 = .ok (.invokevirtual 330, 3) := by decide +kernel
theorem dX12_likely_133 : decode cX12_likely 133 = .ok (.iconst 0, 1) := by decide +kernel
theorem dX12_likely_134 : decode cX12_likely 134 = .ok (.ireturn, 1) := by decide +kernel
def fX12_likely_L50 (x1 : Int32) (x2 : Int32) (x3 : Int32) (x4 : Int32) (M : zM) : Nat → Int64 → Int32 → Option Int64
  | 0, _, _ => none
  | n + 1, x5, x7 => if x3 < x7 then (
    some x5)
    else (
    (if (x7 &&& (x3 ^^^ (-1))) = 0 then (
    (fX12_canWith x7 M).bind fun (r6 : Int32) =>
    if x1 ≤ (fJ6_bitCount_0f7a4 r6) then (
    (fX12_power ((10 - x2).toInt64) (fJ6_bitCount_0f7a4 x7)).bind fun (r9 : Int64) =>
    (fX12_power x2.toInt64 (x4 - (fJ6_bitCount_0f7a4 x7))).bind fun (r11 : Int64) =>
    zlet (x5 + (r9 * r11)) fun (x5_111 : Int64) =>
    some x5_111)
    else (
    some x5))
    else (
    some x5) : Option Int64).bind fun (x5_113 : Int64) =>
    fX12_likely_L50 x1 x2 x3 x4 M n x5_113 (x7 + 1))
def fX12_likely (x1 : Int32) (x2 : Int32) (M : zM) : Option (Int32 × zM) := zlet (zSI M 36 12 0) fun (M2 : zM) =>
  if (fX12_in x1 0 6) = 0 then (
  some ((-1), M2))
  else (
  if (fX12_in x2 0 10) = 0 then (
  some ((-1), M2))
  else (
  (fX12_hadBy 37 6 M2).bind fun (r3 : Int32) =>
  zlet (fJ6_bitCount_0f7a4 r3) fun (x4_42 : Int32) =>
  (fX12_likely_L50 x1 x2 r3 x4_42 M2 4000 0 0).bind fun (x5_119 : Int64) =>
  (fX12_power 10 x4_42).bind fun (r12 : Int64) =>
  (fX12_tellPart x5_119 r12 M2).bind fun (M130 : zM) =>
  some (0, M130)))
set_option maxHeartbeats 4000000 in
theorem lX12_likely_50 {E : zE} {Γ : zT} {d : Nat} {K1 : Int64 → Prop} (hC : Cx E Γ RX12 cX12_likely 8 d) (hd : 103 ≤ d) (x1 : Int32) (x2 : Int32) (x3 : Int32) (x4 : Int32) (M : zM) (hx : ∀ (x5_119 : Int64), K1 x5_119 → G E Γ 8 119 [(0, .ref 36), (4, .int x4), (5, .long x5_119)] [] M) :
    ∀ (n : Nat) (x5 : Int64) (x7 : Int32), wpO (fX12_likely_L50 x1 x2 x3 x4 M n x5 x7) K1 → G E Γ 8 50 [(0, .ref 36), (1, .int x1), (2, .int x2), (3, .int x3), (4, .int x4), (5, .long x5), (7, .int x7)] [] M := by
  intro n
  induction n with
  | zero =>
    intro x5 x7 h
    exact (wpO_0 h).elim
  | succ n ih =>
    intro x5 x7 h
    rw [fX12_likely_L50.eq_2] at h
    refine g_iload (i := 7) (x := x7) hC (dX12_likely_50) rfl ?_
    refine g_iload_n (i := 3) (x := x3) hC (dX12_likely_52) rfl rfl ?_
    refine g_icmp_gt (tgt := 119) hC (dX12_likely_53) (by decide) (fun c53 => ?_) (fun c53 => ?_)
    · have h := wpO_t c53 h
      refine g_sub (lv' := [(0, .ref 36), (4, .int x4), (5, .long x5)]) [0, 4, 5] rfl ?_
      exact hx _ (wpO_s h)
    · have h := wpO_f c53 h
      refine g_iload (i := 7) (x := x7) hC (dX12_likely_56) rfl ?_
      refine g_iload_n (i := 3) (x := x3) hC (dX12_likely_58) rfl rfl ?_
      refine g_iconst (v := (-1)) hC (dX12_likely_59) kc_m1 ?_
      refine g_ixor hC (dX12_likely_60) ?_
      refine g_iand hC (dX12_likely_61) ?_
      refine wpO_bJ h (fun KJ5 hKJ5 h => ?_)
      have hJ5 : ∀ (x5_113 : Int64), KJ5 x5_113 → G E Γ 8 113 [(0, .ref 36), (1, .int x1), (2, .int x2), (3, .int x3), (4, .int x4), (5, .long x5_113), (7, .int x7)] [] M := by
        intro x5_113 h
        have h := hKJ5 _ h
        refine g_iinc (x := x7) (v := (x7 + 1)) (lv2 := [(7, .int (x7 + 1)), (0, .ref 36), (1, .int x1), (2, .int x2), (3, .int x3), (4, .int x4), (5, .long x5_113)]) hC (dX12_likely_113) rfl rfl (by decide) rfl ?_
        refine g_goto (tgt := 50) hC (dX12_likely_116) (by decide) ?_
        refine g_sub (lv' := [(0, .ref 36), (1, .int x1), (2, .int x2), (3, .int x3), (4, .int x4), (5, .long x5_113), (7, .int (x7 + 1))]) [1, 2, 3, 4, 5, 6, 0] rfl ?_
        exact ih _ _ h
      refine g_if_ne (tgt := 113) hC (dX12_likely_62) (by decide) (fun c62 => ?_) (fun c62 => ?_)
      · have h := wpO_f c62 h
        exact hJ5 _ (wpO_s h)
      · have h := wpO_t c62 h
        refine g_aload_n (i := 0) (x := 36) hC (dX12_likely_65) rfl rfl ?_
        refine g_iload (i := 7) (x := x7) hC (dX12_likely_66) rfl ?_
        have h := wpO_b h
        refine g_callVi ([.int x7]) hC wvX12_284 (dX12_likely_68) rfl rfl (by omega) (Nat.le_of_ble_eq_true rfl) (cX12_canWith_ok (by omega) x7 M h) (fun r6 N q => ?_)
        obtain ⟨rfl, h⟩ := q
        refine g_callSi ([.int r6]) hC wsX12_196 (dX12_likely_71) rfl (by omega) (Nat.le_of_ble_eq_true rfl) (cJ6_bitCount_0f7a4_ok (by omega) r6 M (K := fun r => r = fJ6_bitCount_0f7a4 r6) rfl) (fun r N q => ?_)
        obtain ⟨rfl, rfl⟩ := q
        refine g_iload_n (i := 1) (x := x1) hC (dX12_likely_74) rfl rfl ?_
        refine g_icmp_ge (tgt := 81) hC (dX12_likely_75) (by decide) (fun c75 => ?_) (fun c75 => ?_)
        · have h := wpO_t c75 h
          refine g_lload (i := 5) (x := x5) hC (dX12_likely_81) rfl ?_
          refine g_bipush (v := 10) hC (dX12_likely_83) kb_10 ?_
          refine g_iload_n (i := 2) (x := x2) hC (dX12_likely_85) rfl rfl ?_
          refine g_isub hC (dX12_likely_86) ?_
          refine g_i2l hC (dX12_likely_87) ?_
          refine g_iload (i := 7) (x := x7) hC (dX12_likely_88) rfl ?_
          refine g_callSi ([.int x7]) hC wsX12_196 (dX12_likely_90) rfl (by omega) (Nat.le_of_ble_eq_true rfl) (cJ6_bitCount_0f7a4_ok (by omega) x7 M (K := fun r => r = fJ6_bitCount_0f7a4 x7) rfl) (fun r N q => ?_)
          obtain ⟨rfl, rfl⟩ := q
          have h := wpO_b h
          refine g_callSl ([.long ((10 - x2).toInt64), .int (fJ6_bitCount_0f7a4 x7)]) hC wsX12_339 (dX12_likely_93) rfl (by omega) (Nat.le_of_ble_eq_true rfl) (cX12_power_ok (by omega) ((10 - x2).toInt64) (fJ6_bitCount_0f7a4 x7) M h) (fun r9 N q => ?_)
          obtain ⟨rfl, h⟩ := q
          refine g_iload_n (i := 2) (x := x2) hC (dX12_likely_96) rfl rfl ?_
          refine g_i2l hC (dX12_likely_97) ?_
          refine g_iload (i := 4) (x := x4) hC (dX12_likely_98) rfl ?_
          refine g_iload (i := 7) (x := x7) hC (dX12_likely_100) rfl ?_
          refine g_callSi ([.int x7]) hC wsX12_196 (dX12_likely_102) rfl (by omega) (Nat.le_of_ble_eq_true rfl) (cJ6_bitCount_0f7a4_ok (by omega) x7 M (K := fun r => r = fJ6_bitCount_0f7a4 x7) rfl) (fun r N q => ?_)
          obtain ⟨rfl, rfl⟩ := q
          refine g_isub hC (dX12_likely_105) ?_
          have h := wpO_b h
          refine g_callSl ([.long x2.toInt64, .int (x4 - (fJ6_bitCount_0f7a4 x7))]) hC wsX12_339 (dX12_likely_106) rfl (by omega) (Nat.le_of_ble_eq_true rfl) (cX12_power_ok (by omega) x2.toInt64 (x4 - (fJ6_bitCount_0f7a4 x7)) M h) (fun r11 N q => ?_)
          obtain ⟨rfl, h⟩ := q
          refine g_lmul hC (dX12_likely_109) ?_
          refine g_ladd hC (dX12_likely_110) ?_
          refine g_nml (fun x5_111 e_x5_111 => ?_)
          have h := wpO_n e_x5_111 h
          refine g_lstore (i := 5) (lv2 := [(5, .long x5_111), (0, .ref 36), (1, .int x1), (2, .int x2), (3, .int x3), (4, .int x4), (7, .int x7)]) hC (dX12_likely_111) (by decide) rfl ?_
          refine g_sub (lv' := [(0, .ref 36), (1, .int x1), (2, .int x2), (3, .int x3), (4, .int x4), (5, .long x5_111), (7, .int x7)]) [1, 2, 3, 4, 5, 0, 6] rfl ?_
          exact hJ5 _ (wpO_s h)
        · have h := wpO_f c75 h
          refine g_goto (tgt := 113) hC (dX12_likely_78) (by decide) ?_
          exact hJ5 _ (wpO_s h)
set_option maxHeartbeats 4000000 in
theorem cX12_likely_ok {E : zE} {d : Nat} (hd : 103 ≤ d) (x1 : Int32) (x2 : Int32) (M : zM) {K : (Int32 × zM) → Prop} (h : wpO (fX12_likely x1 x2 M) K) : CMi E d yX12_likely cX12_likely 8 (some .int) [.ref 36, .int x1, .int x2] M (fun r N => K (r, N)) := by
  refine CMi.of (by decide) (Nat.le_of_ble_eq_true rfl) (fun Γ hC hr => ?_)
  have hC : Cx E Γ RX12 cX12_likely 8 d := hC
  show G E Γ 8 0 [(0, .ref 36), (1, .int x1), (2, .int x2)] [] M
  unfold fX12_likely at h
  refine g_aload_n (i := 0) (x := 36) hC (dX12_likely_0) rfl rfl ?_
  refine g_iconst (v := 0) hC (dX12_likely_1) kc_0 ?_
  refine g_putI hC fpX12_86 (dX12_likely_2) rfl rfl rfl rfl ?_
  refine g_nmM (fun M2 e_M2 => ?_)
  have h := wpO_n e_M2 h
  refine g_iload_n (i := 1) (x := x1) hC (dX12_likely_5) rfl rfl ?_
  refine g_iconst (v := 0) hC (dX12_likely_6) kc_0 ?_
  refine g_bipush (v := 6) hC (dX12_likely_7) kb_6 ?_
  refine g_callSi ([.int x1, .int 0, .int 6]) hC wsX12_95 (dX12_likely_9) rfl (by omega) (Nat.le_of_ble_eq_true rfl) (cX12_in_ok (by omega) x1 0 6 M2 (K := fun r => r = fX12_in x1 0 6) rfl) (fun r N q => ?_)
  obtain ⟨rfl, rfl⟩ := q
  refine g_if_eq (tgt := 25) hC (dX12_likely_12) (by decide) (fun c12 => ?_) (fun c12 => ?_)
  · have h := wpO_t c12 h
    refine g_iconst (v := (-1)) hC (dX12_likely_25) kc_m1 ?_
    refine g_ireturn hC hr (dX12_likely_26) ?_
    exact wpO_s h
  · have h := wpO_f c12 h
    refine g_iload_n (i := 2) (x := x2) hC (dX12_likely_15) rfl rfl ?_
    refine g_iconst (v := 0) hC (dX12_likely_16) kc_0 ?_
    refine g_bipush (v := 10) hC (dX12_likely_17) kb_10 ?_
    refine g_callSi ([.int x2, .int 0, .int 10]) hC wsX12_95 (dX12_likely_19) rfl (by omega) (Nat.le_of_ble_eq_true rfl) (cX12_in_ok (by omega) x2 0 10 M2 (K := fun r => r = fX12_in x2 0 10) rfl) (fun r N q => ?_)
    obtain ⟨rfl, rfl⟩ := q
    refine g_if_ne (tgt := 27) hC (dX12_likely_22) (by decide) (fun c22 => ?_) (fun c22 => ?_)
    · have h := wpO_f c22 h
      refine g_aload_n (i := 0) (x := 36) hC (dX12_likely_27) rfl rfl ?_
      refine g_aload_n (i := 0) (x := 36) hC (dX12_likely_28) rfl rfl ?_
      refine g_getR (r := 37) hC flX12_9 (dX12_likely_29) rfl rfl rfl ?_
      refine g_bipush (v := 6) hC (dX12_likely_32) kb_6 ?_
      have h := wpO_b h
      refine g_callVi ([.ref 37, .int 6]) hC wvX12_213 (dX12_likely_34) rfl rfl (by omega) (Nat.le_of_ble_eq_true rfl) (cX12_hadBy_ok (by omega) 37 6 M2 h) (fun r3 N q => ?_)
      obtain ⟨rfl, h⟩ := q
      refine g_istore_n (i := 3) (lv2 := [(3, .int r3), (0, .ref 36), (1, .int x1), (2, .int x2)]) hC (dX12_likely_37) rfl (by decide) rfl ?_
      refine g_iload_n (i := 3) (x := r3) hC (dX12_likely_38) rfl rfl ?_
      refine g_callSi ([.int r3]) hC wsX12_196 (dX12_likely_39) rfl (by omega) (Nat.le_of_ble_eq_true rfl) (cJ6_bitCount_0f7a4_ok (by omega) r3 M2 (K := fun r => r = fJ6_bitCount_0f7a4 r3) rfl) (fun r N q => ?_)
      obtain ⟨rfl, rfl⟩ := q
      refine g_nmi (fun x4_42 e_x4_42 => ?_)
      have h := wpO_n e_x4_42 h
      refine g_istore (i := 4) (lv2 := [(4, .int x4_42), (3, .int r3), (0, .ref 36), (1, .int x1), (2, .int x2)]) hC (dX12_likely_42) (by decide) rfl ?_
      refine g_lconst (v := 0) hC (dX12_likely_44) kl_0 ?_
      refine g_lstore (i := 5) (lv2 := [(5, .long 0), (4, .int x4_42), (3, .int r3), (0, .ref 36), (1, .int x1), (2, .int x2)]) hC (dX12_likely_45) (by decide) rfl ?_
      refine g_iconst (v := 0) hC (dX12_likely_47) kc_0 ?_
      refine g_istore (i := 7) (lv2 := [(7, .int 0), (5, .long 0), (4, .int x4_42), (3, .int r3), (0, .ref 36), (1, .int x1), (2, .int x2)]) hC (dX12_likely_48) (by decide) rfl ?_
      refine g_sub (lv' := [(0, .ref 36), (1, .int x1), (2, .int x2), (3, .int r3), (4, .int x4_42), (5, .long 0), (7, .int 0)]) [4, 5, 6, 3, 2, 1, 0] rfl ?_
      refine wpO_bJ h (fun KL50 hKL50 h => ?_)
      refine lX12_likely_50 (K1 := KL50) hC (by omega) x1 x2 r3 x4_42 M2 (fun x5_119 h => ?_) _ _ _ h
      have h := hKL50 _ h
      refine g_aload_n (i := 0) (x := 36) hC (dX12_likely_119) rfl rfl ?_
      refine g_lload (i := 5) (x := x5_119) hC (dX12_likely_120) rfl ?_
      refine g_ldc2_w (v := 10) hC m_1612 (dX12_likely_122) ?_
      refine g_iload (i := 4) (x := x4_42) hC (dX12_likely_125) rfl ?_
      have h := wpO_b h
      refine g_callSl ([.long 10, .int x4_42]) hC wsX12_339 (dX12_likely_127) rfl (by omega) (Nat.le_of_ble_eq_true rfl) (cX12_power_ok (by omega) 10 x4_42 M2 h) (fun r12 N q => ?_)
      obtain ⟨rfl, h⟩ := q
      have h := wpO_b h
      refine g_callVv ([.long x5_119, .long r12]) hC wvX12_330 (dX12_likely_130) rfl rfl (by omega) (Nat.le_of_ble_eq_true rfl) (cX12_tellPart_ok (by omega) x5_119 r12 M2 h) (fun M130 h => ?_)
      refine g_iconst (v := 0) hC (dX12_likely_133) kc_0 ?_
      refine g_ireturn hC hr (dX12_likely_134) ?_
      exact wpO_s h
    · have h := wpO_t c22 h
      refine g_iconst (v := (-1)) hC (dX12_likely_25) kc_m1 ?_
      refine g_ireturn hC hr (dX12_likely_26) ?_
      exact wpO_s h
/-! LostByStateModel.hatch()I -/
theorem dX12_hatch_0 : decode cX12_hatch 0 = .ok (.aload_n 0, 1) := by decide +kernel
theorem dX12_hatch_1 : decode cX12_hatch 1 = .ok (.iconst 0, 1) := by decide +kernel
theorem dX12_hatch_2 : decode cX12_hatch 2 = .ok (.putfield 86, 3) := by decide +kernel
theorem dX12_hatch_5 : decode cX12_hatch 5 = .ok (.aload_n 0, 1) := by decide +kernel
theorem dX12_hatch_6 : decode cX12_hatch 6 = .ok (.bipush 6, 2) := by decide +kernel
theorem dX12_hatch_8 : decode cX12_hatch 8 = .ok (.invokevirtual 150, 3) := by decide +kernel
theorem dX12_hatch_11 : decode cX12_hatch 11 = .ok (.iconst 0, 1) := by decide +kernel
theorem dX12_hatch_12 : decode cX12_hatch 12 = .ok (.istore_n 1, 1) := by decide +kernel
theorem dX12_hatch_13 : decode cX12_hatch 13 = .ok (.iconst 0, 1) := by decide +kernel
theorem dX12_hatch_14 : decode cX12_hatch 14 = .ok (.istore_n 2, 1) := by decide +kernel
theorem dX12_hatch_15 : decode cX12_hatch 15 = .ok (.aload_n 0, 1) := by decide +kernel
theorem dX12_hatch_16 : decode cX12_hatch 16 = .ok (.invokevirtual 124, 3) := by decide +kernel
theorem dX12_hatch_19 : decode cX12_hatch 19 = .ok (.ifCond .eq 44, 3) := by decide +kernel
theorem dX12_hatch_22 : decode cX12_hatch 22 = .ok (.iload_n 1, 1) := by decide +kernel
theorem dX12_hatch_23 : decode cX12_hatch 23 = .ok (.ifCond .eq 11, 3) := by decide +kernel
theorem dX12_hatch_26 : decode cX12_hatch 26 = .ok (.aload_n 0, 1) := by decide +kernel
theorem dX12_hatch_27 : decode cX12_hatch 27 = .ok (.invokevirtual 128, 3) := by decide +kernel
theorem dX12_hatch_30 : decode cX12_hatch 30 = .ok (.iconst (-1), 1) := by decide +kernel
theorem dX12_hatch_31 : decode cX12_hatch 31 = .ok (.if_icmp .eq 32, 3) := by decide +kernel
theorem dX12_hatch_34 : decode cX12_hatch 34 = .ok (.aload_n 0, 1) := by decide +kernel
theorem dX12_hatch_35 : decode cX12_hatch 35 = .ok (.getfield 37, 3) := by decide +kernel
theorem dX12_hatch_38 : decode cX12_hatch 38 = .ok (.iload_n 1, 1) := by decide +kernel
theorem dX12_hatch_39 : decode cX12_hatch 39 = .ok (.aload_n 0, 1) := by decide +kernel
theorem dX12_hatch_40 : decode cX12_hatch 40 = .ok (.bipush 48, 2) := by decide +kernel
theorem dX12_hatch_42 : decode cX12_hatch 42 = .ok (.bipush 10, 2) := by decide +kernel
theorem dX12_hatch_44 : decode cX12_hatch 44 = .ok (.invokevirtual 140, 3) := by decide +kernel
theorem dX12_hatch_47 : decode cX12_hatch 47 = .ok (.iastore, 1) := by decide +kernel
theorem dX12_hatch_48 : decode cX12_hatch 48 = .ok (.iload_n 2, 1) := by decide +kernel
theorem dX12_hatch_49 : decode cX12_hatch 49 = .ok (.aload_n 0, 1) := by decide +kernel
theorem dX12_hatch_50 : decode cX12_hatch 50 = .ok (.getfield 37, 3) := by decide +kernel
theorem dX12_hatch_53 : decode cX12_hatch 53 = .ok (.iload_n 1, 1) := by decide +kernel
theorem dX12_hatch_54 : decode cX12_hatch 54 = .ok (.iaload, 1) := by decide +kernel
theorem dX12_hatch_55 : decode cX12_hatch 55 = .ok (.ixor, 1) := by decide +kernel
theorem dX12_hatch_56 : decode cX12_hatch 56 = .ok (.istore_n 2, 1) := by decide +kernel
theorem dX12_hatch_57 : decode cX12_hatch 57 = .ok (.iinc 1 1, 3) := by decide +kernel
theorem dX12_hatch_60 : decode cX12_hatch 60 = .ok (.goto (-45), 3) := by decide +kernel
theorem dX12_hatch_63 : decode cX12_hatch 63 = .ok (.aload_n 0, 1) := by decide +kernel
theorem dX12_hatch_64 : decode cX12_hatch 64 = .ok (.invokevirtual 157, 3) := by decide +kernel
theorem dX12_hatch_67 : decode cX12_hatch 67 = .ok (.ifCond .ne 10, 3) := by decide +kernel
theorem dX12_hatch_70 : decode cX12_hatch 70 = .ok (.iconst (-1), 1) := by decide +kernel
theorem dX12_hatch_71 : decode cX12_hatch 71 = .ok (.aload_n 0, 1) := by decide +kernel
theorem dX12_hatch_72 : decode cX12_hatch 72 = .ok (.getfield 117, 3) := by decide +kernel
theorem dX12_hatch_75 : decode cX12_hatch 75 = .ok (.isub, 1) := by decide +kernel
theorem dX12_hatch_76 : decode cX12_hatch 76 = .ok (.ireturn, 1) := by decide +kernel
theorem dX12_hatch_77 : decode cX12_hatch 77 = .ok (.aload_n 0, 1) := by decide +kernel
theorem dX12_hatch_78 : decode cX12_hatch 78 = .ok (.iconst 0, 1) := by decide +kernel
theorem dX12_hatch_79 : decode cX12_hatch 79 = .ok (.putfield 89, 3) := by decide +kernel
theorem dX12_hatch_82 : decode cX12_hatch 82 = .ok (.iconst 0, 1) := by decide +kernel
theorem dX12_hatch_83 : decode cX12_hatch 83 = .ok (.istore_n 3, 1) := by decide +kernel
theorem dX12_hatch_84 : decode cX12_hatch 84 = .ok (.iload_n 3, 1) := by decide +kernel
theorem dX12_hatch_85 : decode cX12_hatch 85 = .ok (.iload_n 1, 1) := by decide +kernel
theorem dX12_hatch_86 : decode cX12_hatch 86 = .ok (.if_icmp .ge 61, 3) := by decide +kernel
theorem dX12_hatch_89 : decode cX12_hatch 89 = .ok (.iload_n 2, 1) := by decide +kernel
theorem dX12_hatch_90 : decode cX12_hatch 90 = .ok (.ifCond .eq 57, 3) := by decide +kernel
theorem dX12_hatch_93 : decode cX12_hatch 93 = .ok (.aload_n 0, 1) := by decide +kernel
theorem dX12_hatch_94 : decode cX12_hatch 94 = .ok (.getfield 37, 3) := by decide +kernel
theorem dX12_hatch_97 : decode cX12_hatch 97 = .ok (.iload_n 3, 1) := by decide +kernel
theorem dX12_hatch_98 : decode cX12_hatch 98 = .ok (.iaload, 1) := by decide +kernel
theorem dX12_hatch_99 : decode cX12_hatch 99 = .ok (.iload_n 2, 1) := by decide +kernel
theorem dX12_hatch_100 : decode cX12_hatch 100 = .ok (.ixor, 1) := by decide +kernel
theorem dX12_hatch_101 : decode cX12_hatch 101 = .ok (.aload_n 0, 1) := by decide +kernel
theorem dX12_hatch_102 : decode cX12_hatch 102 = .ok (.getfield 37, 3) := by decide +kernel
theorem dX12_hatch_105 : decode cX12_hatch 105 = .ok (.iload_n 3, 1) := by decide +kernel
theorem dX12_hatch_106 : decode cX12_hatch 106 = .ok (.iaload, 1) := by decide +kernel
theorem dX12_hatch_107 : decode cX12_hatch 107 = .ok (.if_icmp .lt 6, 3) := by decide +kernel
theorem dX12_hatch_110 : decode cX12_hatch 110 = .ok (.goto 31, 3) := by decide +kernel
theorem dX12_hatch_113 : decode cX12_hatch 113 = .ok (.aload_n 0, 1) := by decide +kernel
theorem dX12_hatch_114 : decode cX12_hatch 114 = .ok (.iload_n 3, 1) := by decide +kernel
theorem dX12_hatch_115 : decode cX12_hatch 115 = .ok (.i2l, 1) := by decide +kernel
theorem dX12_hatch_116 : decode cX12_hatch 116 = .ok (.invokevirtual 280, 3) := by decide +kernel
theorem dX12_hatch_119 : decode cX12_hatch 119 = .ok (.aload_n 0, 1) := by decide +kernel
theorem dX12_hatch_120 : decode cX12_hatch 120 = .ok (.aload_n 0, 1) := by decide +kernel
theorem dX12_hatch_121 : decode cX12_hatch 121 = .ok (.getfield 37, 3) := by decide +kernel
theorem dX12_hatch_124 : decode cX12_hatch 124 = .ok (.iload_n 3, 1) := by decide +kernel
theorem dX12_hatch_125 : decode cX12_hatch 125 = .ok (.iaload, 1) := by decide +kernel
theorem dX12_hatch_126 : decode cX12_hatch 126 = .ok (.aload_n 0, 1) := by decide +kernel
theorem dX12_hatch_127 : decode cX12_hatch 127 = .ok (.getfield 37, 3) := by decide +kernel
theorem dX12_hatch_130 : decode cX12_hatch 130 = .ok (.iload_n 3, 1) := by decide +kernel
theorem dX12_hatch_131 : decode cX12_hatch 131 = .ok (.iaload, 1) := by decide +kernel
theorem dX12_hatch_132 : decode cX12_hatch 132 = .ok (.iload_n 2, 1) := by decide +kernel
theorem dX12_hatch_133 : decode cX12_hatch 133 = .ok (.ixor, 1) := by decide +kernel
theorem dX12_hatch_134 : decode cX12_hatch 134 = .ok (.isub, 1) := by decide +kernel
theorem dX12_hatch_135 : decode cX12_hatch 135 = .ok (.i2l, 1) := by decide +kernel
theorem dX12_hatch_136 : decode cX12_hatch 136 = .ok (.invokevirtual 280, 3) := by decide +kernel
theorem dX12_hatch_139 : decode cX12_hatch 139 = .ok (.iconst 1, 1) := by decide +kernel
theorem dX12_hatch_140 : decode cX12_hatch 140 = .ok (.ireturn, 1) := by decide +kernel
theorem dX12_hatch_141 : decode cX12_hatch 141 = .ok (.iinc 3 1, 3) := by decide +kernel
theorem dX12_hatch_144 : decode cX12_hatch 144 = .ok (.goto (-60), 3) := by decide +kernel
theorem dX12_hatch_147 : decode cX12_hatch 147 = .ok (.iconst 0, 1) := by decide +kernel
theorem dX12_hatch_148 : decode cX12_hatch 148 = .ok (.ireturn, 1) := by decide +kernel
def fX12_hatch_L15 : Nat → Int32 → Int32 → zM → Option (Int32 × Int32 × zM)
  | 0, _, _, _ => none
  | n + 1, x1, x2, M => if (fX12_fine M) = 0 then (
    some (x1, x2, M))
    else (
    zj (fun (_ : Unit) =>
    (fX12_oneOf 48 10 M).bind fun (q : Int32 × zM) => zp q fun r5 M44 =>
    if zin x1 16 then (
    zlet (zSI M44 43 x1.toNatClampNeg r5) fun (M47 : zM) =>
    zlet (x2 ^^^ (M47.1 43 x1.toNatClampNeg)) fun (x2_56 : Int32) =>
    fX12_hatch_L15 n (x1 + 1) x2_56 M47) else none)
    fun J3 =>
    if x1 = 0 then (
    J3 ())
    else (
    (fX12_here M).bind fun (r4 : Int32) =>
    if r4 = (-1) then (
    some (x1, x2, M))
    else (
    J3 ())))
def fX12_hatch_L84 (x1 : Int32) (x2 : Int32) : Nat → Int32 → zM → Option ((Int32 × zM) ⊕ zM)
  | 0, _, _ => none
  | n + 1, x3, M => if x1 ≤ x3 then (
    some (.inr M))
    else (
    if x2 = 0 then (
    some (.inr M))
    else (
    if zin x3 16 then (
    if ((M.1 43 x3.toNatClampNeg) ^^^ x2) < (M.1 43 x3.toNatClampNeg) then (
    (fX12_tell x3.toInt64 M).bind fun (M116 : zM) =>
    (fX12_tell (((M116.1 43 x3.toNatClampNeg) - ((M116.1 43 x3.toNatClampNeg) ^^^ x2)).toInt64) M116).bind fun (M136 : zM) =>
    some (.inl (1, M136)))
    else (
    fX12_hatch_L84 x1 x2 n (x3 + 1) M)) else none))
def fX12_hatch  (M : zM) : Option (Int32 × zM) := zlet (zSI M 36 12 0) fun (M2 : zM) =>
  zlet (fX12_beginText 6 M2) fun (M8 : zM) =>
  (fX12_hatch_L15 4000 0 0 M8).bind fun (q : Int32 × Int32 × zM) => zp q fun x1_63 q => zp q fun x2_63 M_63 =>
  zlet ((fX12_wasRight M_63).2) fun (M64 : zM) =>
  if ((fX12_wasRight M_63).1) = 0 then (
  some ((-1) - (M64.1 36 17), M64))
  else (
  zlet (zSI M64 36 11 0) fun (M79 : zM) =>
  (fX12_hatch_L84 x1_63 x2_63 4000 0 M79).bind fun q => zs q (fun r => some r)
  (fun (M_147 : zM) =>
  some (0, M_147)))
set_option maxHeartbeats 4000000 in
theorem lX12_hatch_15 {E : zE} {Γ : zT} {d : Nat} {K1 : (Int32 × Int32 × zM) → Prop} (hC : Cx E Γ RX12 cX12_hatch 4 d) (hd : 3 ≤ d) (hx : ∀ (x1_63 : Int32) (x2_63 : Int32) (M_63 : zM), K1 (x1_63, x2_63, M_63) → G E Γ 4 63 [(0, .ref 36), (1, .int x1_63), (2, .int x2_63)] [] M_63) :
    ∀ (n : Nat) (x1 : Int32) (x2 : Int32) (M : zM), wpO (fX12_hatch_L15 n x1 x2 M) K1 → G E Γ 4 15 [(0, .ref 36), (1, .int x1), (2, .int x2)] [] M := by
  intro n
  induction n with
  | zero =>
    intro x1 x2 M h
    exact (wpO_0 h).elim
  | succ n ih =>
    intro x1 x2 M h
    rw [fX12_hatch_L15.eq_2] at h
    refine g_aload_n (i := 0) (x := 36) hC (dX12_hatch_15) rfl rfl ?_
    refine g_callVi ([]) hC wvX12_124 (dX12_hatch_16) rfl rfl (by omega) (Nat.le_of_ble_eq_true rfl) (cX12_fine_ok (by omega) M (K := fun r => r = fX12_fine M) rfl) (fun r N q => ?_)
    obtain ⟨rfl, rfl⟩ := q
    refine g_if_eq (tgt := 63) hC (dX12_hatch_19) (by decide) (fun c19 => ?_) (fun c19 => ?_)
    · have h := wpO_t c19 h
      exact hx _ _ _ (wpO_s h)
    · have h := wpO_f c19 h
      refine g_iload_n (i := 1) (x := x1) hC (dX12_hatch_22) rfl rfl ?_
      refine wpO_j h (fun J3 hkJ3 h => ?_)
      have hJ3 : ∀ (_ : Unit), wpO (J3 ()) K1 → G E Γ 4 34 [(0, .ref 36), (1, .int x1), (2, .int x2)] [] M := by
        intro _ h
        have h := hkJ3 _ h
        refine g_aload_n (i := 0) (x := 36) hC (dX12_hatch_34) rfl rfl ?_
        refine g_getR (r := 43) hC flX12_37 (dX12_hatch_35) rfl rfl rfl ?_
        refine g_iload_n (i := 1) (x := x1) hC (dX12_hatch_38) rfl rfl ?_
        refine g_aload_n (i := 0) (x := 36) hC (dX12_hatch_39) rfl rfl ?_
        refine g_bipush (v := 48) hC (dX12_hatch_40) kb_48 ?_
        refine g_bipush (v := 10) hC (dX12_hatch_42) kb_10 ?_
        have h := wpO_b h
        refine g_callVi ([.int 48, .int 10]) hC wvX12_140 (dX12_hatch_44) rfl rfl (by omega) (Nat.le_of_ble_eq_true rfl) (cX12_oneOf_ok (by omega) 48 10 M h) (fun r5 M44 h => ?_)
        have h := wpO_p h
        obtain ⟨q6, h⟩ := wpO_g h
        refine g_iastore (n := 16) hC (dX12_hatch_47) rfl q6 ?_
        refine g_nmM (fun M47 e_M47 => ?_)
        have h := wpO_n e_M47 h
        refine g_iload_n (i := 2) (x := x2) hC (dX12_hatch_48) rfl rfl ?_
        refine g_aload_n (i := 0) (x := 36) hC (dX12_hatch_49) rfl rfl ?_
        refine g_getR (r := 43) hC flX12_37 (dX12_hatch_50) rfl rfl rfl ?_
        refine g_iload_n (i := 1) (x := x1) hC (dX12_hatch_53) rfl rfl ?_
        refine g_iaload (n := 16) hC (dX12_hatch_54) rfl q6 ?_
        refine g_ixor hC (dX12_hatch_55) ?_
        refine g_nmi (fun x2_56 e_x2_56 => ?_)
        have h := wpO_n e_x2_56 h
        refine g_istore_n (i := 2) (lv2 := [(2, .int x2_56), (0, .ref 36), (1, .int x1)]) hC (dX12_hatch_56) rfl (by decide) rfl ?_
        refine g_iinc (x := x1) (v := (x1 + 1)) (lv2 := [(1, .int (x1 + 1)), (2, .int x2_56), (0, .ref 36)]) hC (dX12_hatch_57) rfl rfl (by decide) rfl ?_
        refine g_goto (tgt := 15) hC (dX12_hatch_60) (by decide) ?_
        refine g_sub (lv' := [(0, .ref 36), (1, .int (x1 + 1)), (2, .int x2_56)]) [2, 0, 1] rfl ?_
        exact ih _ _ _ h
      refine g_if_eq (tgt := 34) hC (dX12_hatch_23) (by decide) (fun c23 => ?_) (fun c23 => ?_)
      · have h := wpO_t c23 h
        exact hJ3 () h
      · have h := wpO_f c23 h
        refine g_aload_n (i := 0) (x := 36) hC (dX12_hatch_26) rfl rfl ?_
        have h := wpO_b h
        refine g_callVi ([]) hC wvX12_128 (dX12_hatch_27) rfl rfl (by omega) (Nat.le_of_ble_eq_true rfl) (cX12_here_ok (by omega) M h) (fun r4 N q => ?_)
        obtain ⟨rfl, h⟩ := q
        refine g_iconst (v := (-1)) hC (dX12_hatch_30) kc_m1 ?_
        refine g_icmp_eq (tgt := 63) hC (dX12_hatch_31) (by decide) (fun c31 => ?_) (fun c31 => ?_)
        · have h := wpO_t c31 h
          exact hx _ _ _ (wpO_s h)
        · have h := wpO_f c31 h
          exact hJ3 () h
set_option maxHeartbeats 4000000 in
theorem lX12_hatch_84 {E : zE} {Γ : zT} {d : Nat} {K1 : ((Int32 × zM) ⊕ zM) → Prop} (hC : Cx E Γ RX12 cX12_hatch 4 d) {post : Int32 → zM → Prop} (hr : zRi E Γ (some .int) post) (hd : 3 ≤ d) (x1 : Int32) (x2 : Int32) (hret : ∀ (r : Int32) (N : zM), K1 (.inl (r, N)) → post r N) (hx : ∀ (M_147 : zM), K1 (.inr M_147) → G E Γ 4 147 [] [] M_147) :
    ∀ (n : Nat) (x3 : Int32) (M : zM), wpO (fX12_hatch_L84 x1 x2 n x3 M) K1 → G E Γ 4 84 [(0, .ref 36), (1, .int x1), (2, .int x2), (3, .int x3)] [] M := by
  intro n
  induction n with
  | zero =>
    intro x3 M h
    exact (wpO_0 h).elim
  | succ n ih =>
    intro x3 M h
    rw [fX12_hatch_L84.eq_2] at h
    refine g_iload_n (i := 3) (x := x3) hC (dX12_hatch_84) rfl rfl ?_
    refine g_iload_n (i := 1) (x := x1) hC (dX12_hatch_85) rfl rfl ?_
    refine g_icmp_ge (tgt := 147) hC (dX12_hatch_86) (by decide) (fun c86 => ?_) (fun c86 => ?_)
    · have h := wpO_t c86 h
      refine g_sub (lv' := []) [] rfl ?_
      exact hx _ (wpO_s h)
    · have h := wpO_f c86 h
      refine g_iload_n (i := 2) (x := x2) hC (dX12_hatch_89) rfl rfl ?_
      refine g_if_eq (tgt := 147) hC (dX12_hatch_90) (by decide) (fun c90 => ?_) (fun c90 => ?_)
      · have h := wpO_t c90 h
        refine g_sub (lv' := []) [] rfl ?_
        exact hx _ (wpO_s h)
      · have h := wpO_f c90 h
        refine g_aload_n (i := 0) (x := 36) hC (dX12_hatch_93) rfl rfl ?_
        refine g_getR (r := 43) hC flX12_37 (dX12_hatch_94) rfl rfl rfl ?_
        refine g_iload_n (i := 3) (x := x3) hC (dX12_hatch_97) rfl rfl ?_
        obtain ⟨q8, h⟩ := wpO_g h
        refine g_iaload (n := 16) hC (dX12_hatch_98) rfl q8 ?_
        refine g_iload_n (i := 2) (x := x2) hC (dX12_hatch_99) rfl rfl ?_
        refine g_ixor hC (dX12_hatch_100) ?_
        refine g_aload_n (i := 0) (x := 36) hC (dX12_hatch_101) rfl rfl ?_
        refine g_getR (r := 43) hC flX12_37 (dX12_hatch_102) rfl rfl rfl ?_
        refine g_iload_n (i := 3) (x := x3) hC (dX12_hatch_105) rfl rfl ?_
        refine g_iaload (n := 16) hC (dX12_hatch_106) rfl q8 ?_
        refine g_icmp_lt (tgt := 113) hC (dX12_hatch_107) (by decide) (fun c107 => ?_) (fun c107 => ?_)
        · have h := wpO_t c107 h
          refine g_aload_n (i := 0) (x := 36) hC (dX12_hatch_113) rfl rfl ?_
          refine g_iload_n (i := 3) (x := x3) hC (dX12_hatch_114) rfl rfl ?_
          refine g_i2l hC (dX12_hatch_115) ?_
          have h := wpO_b h
          refine g_callVv ([.long x3.toInt64]) hC wvX12_280 (dX12_hatch_116) rfl rfl (by omega) (Nat.le_of_ble_eq_true rfl) (cX12_tell_ok (by omega) x3.toInt64 M h) (fun M116 h => ?_)
          refine g_aload_n (i := 0) (x := 36) hC (dX12_hatch_119) rfl rfl ?_
          refine g_aload_n (i := 0) (x := 36) hC (dX12_hatch_120) rfl rfl ?_
          refine g_getR (r := 43) hC flX12_37 (dX12_hatch_121) rfl rfl rfl ?_
          refine g_iload_n (i := 3) (x := x3) hC (dX12_hatch_124) rfl rfl ?_
          refine g_iaload (n := 16) hC (dX12_hatch_125) rfl q8 ?_
          refine g_aload_n (i := 0) (x := 36) hC (dX12_hatch_126) rfl rfl ?_
          refine g_getR (r := 43) hC flX12_37 (dX12_hatch_127) rfl rfl rfl ?_
          refine g_iload_n (i := 3) (x := x3) hC (dX12_hatch_130) rfl rfl ?_
          refine g_iaload (n := 16) hC (dX12_hatch_131) rfl q8 ?_
          refine g_iload_n (i := 2) (x := x2) hC (dX12_hatch_132) rfl rfl ?_
          refine g_ixor hC (dX12_hatch_133) ?_
          refine g_isub hC (dX12_hatch_134) ?_
          refine g_i2l hC (dX12_hatch_135) ?_
          have h := wpO_b h
          refine g_callVv ([.long (((M116.1 43 x3.toNatClampNeg) - ((M116.1 43 x3.toNatClampNeg) ^^^ x2)).toInt64)]) hC wvX12_280 (dX12_hatch_136) rfl rfl (by omega) (Nat.le_of_ble_eq_true rfl) (cX12_tell_ok (by omega) (((M116.1 43 x3.toNatClampNeg) - ((M116.1 43 x3.toNatClampNeg) ^^^ x2)).toInt64) M116 h) (fun M136 h => ?_)
          refine g_iconst (v := 1) hC (dX12_hatch_139) kc_1 ?_
          refine g_ireturn hC hr (dX12_hatch_140) ?_
          exact hret _ _ (wpO_s h)
        · have h := wpO_f c107 h
          refine g_goto (tgt := 141) hC (dX12_hatch_110) (by decide) ?_
          refine g_iinc (x := x3) (v := (x3 + 1)) (lv2 := [(3, .int (x3 + 1)), (0, .ref 36), (1, .int x1), (2, .int x2)]) hC (dX12_hatch_141) rfl rfl (by decide) rfl ?_
          refine g_goto (tgt := 84) hC (dX12_hatch_144) (by decide) ?_
          refine g_sub (lv' := [(0, .ref 36), (1, .int x1), (2, .int x2), (3, .int (x3 + 1))]) [1, 2, 3, 0] rfl ?_
          exact ih _ _ h
set_option maxHeartbeats 4000000 in
theorem cX12_hatch_ok {E : zE} {d : Nat} (hd : 3 ≤ d)  (M : zM) {K : (Int32 × zM) → Prop} (h : wpO (fX12_hatch  M) K) : CMi E d yX12_hatch cX12_hatch 4 (some .int) [.ref 36] M (fun r N => K (r, N)) := by
  refine CMi.of (by decide) (Nat.le_of_ble_eq_true rfl) (fun Γ hC hr => ?_)
  have hC : Cx E Γ RX12 cX12_hatch 4 d := hC
  show G E Γ 4 0 [(0, .ref 36)] [] M
  unfold fX12_hatch at h
  refine g_aload_n (i := 0) (x := 36) hC (dX12_hatch_0) rfl rfl ?_
  refine g_iconst (v := 0) hC (dX12_hatch_1) kc_0 ?_
  refine g_putI hC fpX12_86 (dX12_hatch_2) rfl rfl rfl rfl ?_
  refine g_nmM (fun M2 e_M2 => ?_)
  have h := wpO_n e_M2 h
  refine g_aload_n (i := 0) (x := 36) hC (dX12_hatch_5) rfl rfl ?_
  refine g_bipush (v := 6) hC (dX12_hatch_6) kb_6 ?_
  refine g_callVv ([.int 6]) hC wvX12_150 (dX12_hatch_8) rfl rfl (by omega) (Nat.le_of_ble_eq_true rfl) (cX12_beginText_ok (by omega) 6 M2 (K := fun r => r = fX12_beginText 6 M2) rfl) (fun N q => ?_)
  subst q
  refine g_nmM (fun M8 e_M8 => ?_)
  have h := wpO_n e_M8 h
  refine g_iconst (v := 0) hC (dX12_hatch_11) kc_0 ?_
  refine g_istore_n (i := 1) (lv2 := [(1, .int 0), (0, .ref 36)]) hC (dX12_hatch_12) rfl (by decide) rfl ?_
  refine g_iconst (v := 0) hC (dX12_hatch_13) kc_0 ?_
  refine g_istore_n (i := 2) (lv2 := [(2, .int 0), (1, .int 0), (0, .ref 36)]) hC (dX12_hatch_14) rfl (by decide) rfl ?_
  refine g_sub (lv' := [(0, .ref 36), (1, .int 0), (2, .int 0)]) [2, 1, 0] rfl ?_
  refine wpO_bJ h (fun KL15 hKL15 h => ?_)
  refine lX12_hatch_15 (K1 := KL15) hC (by omega)  (fun x1_63 x2_63 M_63 h => ?_) _ _ _ _ h
  have h := hKL15 _ h
  have h := wpO_p h
  have h := wpO_p h
  refine g_aload_n (i := 0) (x := 36) hC (dX12_hatch_63) rfl rfl ?_
  refine g_callVi ([]) hC wvX12_157 (dX12_hatch_64) rfl rfl (by omega) (Nat.le_of_ble_eq_true rfl) (cX12_wasRight_ok (by omega) M_63 (K := fun r => r = fX12_wasRight M_63) rfl) (fun r N q => ?_)
  obtain ⟨rfl, rfl⟩ : r = (fX12_wasRight M_63).1 ∧ N = (fX12_wasRight M_63).2 := ⟨congrArg Prod.fst q, congrArg Prod.snd q⟩
  refine g_nmM (fun M64 e_M64 => ?_)
  have h := wpO_n e_M64 h
  refine g_if_ne (tgt := 77) hC (dX12_hatch_67) (by decide) (fun c67 => ?_) (fun c67 => ?_)
  · have h := wpO_f c67 h
    refine g_aload_n (i := 0) (x := 36) hC (dX12_hatch_77) rfl rfl ?_
    refine g_iconst (v := 0) hC (dX12_hatch_78) kc_0 ?_
    refine g_putI hC fpX12_89 (dX12_hatch_79) rfl rfl rfl rfl ?_
    refine g_nmM (fun M79 e_M79 => ?_)
    have h := wpO_n e_M79 h
    refine g_iconst (v := 0) hC (dX12_hatch_82) kc_0 ?_
    refine g_istore_n (i := 3) (lv2 := [(3, .int 0), (0, .ref 36), (1, .int x1_63), (2, .int x2_63)]) hC (dX12_hatch_83) rfl (by decide) rfl ?_
    refine g_sub (lv' := [(0, .ref 36), (1, .int x1_63), (2, .int x2_63), (3, .int 0)]) [1, 2, 3, 0] rfl ?_
    refine wpO_bJ h (fun KL84 hKL84 h => ?_)
    refine lX12_hatch_84 (K1 := KL84) hC hr (by omega) x1_63 x2_63 (fun r N h => ?_) (fun M_147 h => ?_) _ _ _ h
    · have h := wpO_i (hKL84 _ h)
      exact wpO_s h
    · have h := wpO_r (hKL84 _ h)
      refine g_iconst (v := 0) hC (dX12_hatch_147) kc_0 ?_
      refine g_ireturn hC hr (dX12_hatch_148) ?_
      exact wpO_s h
  · have h := wpO_t c67 h
    refine g_iconst (v := (-1)) hC (dX12_hatch_70) kc_m1 ?_
    refine g_aload_n (i := 0) (x := 36) hC (dX12_hatch_71) rfl rfl ?_
    refine g_getI hC flX12_117 (dX12_hatch_72) rfl rfl ?_
    refine g_isub hC (dX12_hatch_75) ?_
    refine g_ireturn hC hr (dX12_hatch_76) ?_
    exact wpO_s h
/-! LostByStateModel.earns(IIII)I -/
theorem dX12_earns_0 : decode cX12_earns 0 = .ok (.iconst 0, 1) := by decide +kernel
theorem dX12_earns_1 : decode cX12_earns 1 = .ok (.iload_n 2, 1) := by decide +kernel
theorem dX12_earns_2 : decode cX12_earns 2 = .ok (.iload_n 0, 1) := by decide +kernel
theorem dX12_earns_3 : decode cX12_earns 3 = .ok (.iload_n 1, 1) := by decide +kernel
theorem dX12_earns_4 : decode cX12_earns 4 = .ok (.iadd, 1) := by decide +kernel
theorem dX12_earns_5 : decode cX12_earns 5 = .ok (.iconst 2, 1) := by decide +kernel
theorem dX12_earns_6 : decode cX12_earns 6 = .ok (.idiv, 1) := by decide +kernel
theorem dX12_earns_7 : decode cX12_earns 7 = .ok (.isub, 1) := by decide +kernel
theorem dX12_earns_8 : decode cX12_earns 8 = .ok (.invokestatic 206, 3) := by decide +kernel
theorem dX12_earns_11 : decode cX12_earns 11 = .ok (.iload_n 0, 1) := by decide +kernel
theorem dX12_earns_12 : decode cX12_earns 12 = .ok (.iload_n 1, 1) := by decide +kernel
theorem dX12_earns_13 : decode cX12_earns 13 = .ok (.if_icmp .le 7, 3) := by decide +kernel
theorem dX12_earns_16 : decode cX12_earns 16 = .ok (.iconst 3, 1) := by decide +kernel
theorem dX12_earns_17 : decode cX12_earns 17 = .ok (.goto 4, 3) := by decide +kernel
theorem dX12_earns_20 : decode cX12_earns 20 = .ok (.iconst 0, 1) := by decide +kernel
theorem dX12_earns_21 : decode cX12_earns 21 = .ok (.iadd, 1) := by decide +kernel
theorem dX12_earns_22 : decode cX12_earns 22 = .ok (.iload_n 0, 1) := by decide +kernel
theorem dX12_earns_23 : decode cX12_earns 23 = .ok (.iload_n 3, 1) := by decide +kernel
theorem dX12_earns_24 : decode cX12_earns 24 = .ok (.imul, 1) := by decide +kernel
theorem dX12_earns_25 : decode cX12_earns 25 = .ok (.isub, 1) := by decide +kernel
theorem dX12_earns_26 : decode cX12_earns 26 = .ok (.ireturn, 1) := by decide +kernel
def fX12_earns (x0 : Int32) (x1 : Int32) (x2 : Int32) (x3 : Int32) : Int32 := zlet (if x0 ≤ x1 then (
  0)
  else (
  3)) fun (s0_21 : Int32) =>
  (((zmax 0 (x2 - ((x0 + x1) / 2))) + s0_21) - (x0 * x3))
set_option maxHeartbeats 4000000 in
theorem cX12_earns_ok {E : zE} {d : Nat} (hd : 1 ≤ d) (x0 : Int32) (x1 : Int32) (x2 : Int32) (x3 : Int32) (M : zM) {K : Int32 → Prop} (h : wpI (fX12_earns x0 x1 x2 x3) K) : CMi E d yX12_earns cX12_earns 4 (some .int) [.int x0, .int x1, .int x2, .int x3] M (fun r N => M = N ∧ K r) := by
  refine CMi.of (by decide) (Nat.le_of_ble_eq_true rfl) (fun Γ hC hr => ?_)
  have hC : Cx E Γ RX12 cX12_earns 4 d := hC
  show G E Γ 4 0 [(0, .int x0), (1, .int x1), (2, .int x2), (3, .int x3)] [] M
  unfold fX12_earns at h
  refine g_iconst (v := 0) hC (dX12_earns_0) kc_0 ?_
  refine g_iload_n (i := 2) (x := x2) hC (dX12_earns_1) rfl rfl ?_
  refine g_iload_n (i := 0) (x := x0) hC (dX12_earns_2) rfl rfl ?_
  refine g_iload_n (i := 1) (x := x1) hC (dX12_earns_3) rfl rfl ?_
  refine g_iadd hC (dX12_earns_4) ?_
  refine g_iconst (v := 2) hC (dX12_earns_5) kc_2 ?_
  refine g_idiv hC (dX12_earns_6) (by decide) ?_
  refine g_isub hC (dX12_earns_7) ?_
  refine g_max hC wmX12_206 (dX12_earns_8) (by omega) (Nat.le_of_ble_eq_true rfl) ?_
  refine g_iload_n (i := 0) (x := x0) hC (dX12_earns_11) rfl rfl ?_
  refine g_iload_n (i := 1) (x := x1) hC (dX12_earns_12) rfl rfl ?_
  obtain ⟨s0_21, e_s0_21, h⟩ := wpI_l h
  have hJ1 : G E Γ 4 21 [(0, .int x0), (3, .int x3)] [.int s0_21, .int (zmax 0 (x2 - ((x0 + x1) / 2)))] M := by
    refine g_iadd hC (dX12_earns_21) ?_
    refine g_iload_n (i := 0) (x := x0) hC (dX12_earns_22) rfl rfl ?_
    refine g_iload_n (i := 3) (x := x3) hC (dX12_earns_23) rfl rfl ?_
    refine g_imul hC (dX12_earns_24) ?_
    refine g_isub hC (dX12_earns_25) ?_
    refine g_ireturn hC hr (dX12_earns_26) ?_
    exact ⟨rfl, wpI_s h⟩
  refine g_icmp_le (tgt := 20) hC (dX12_earns_13) (by decide) (fun c13 => ?_) (fun c13 => ?_)
  · rw [if_pos c13] at e_s0_21
    refine g_iconst (v := 0) hC (dX12_earns_20) kc_0 ?_
    refine g_sub (lv' := [(0, .int x0), (3, .int x3)]) [0, 3] rfl ?_
    subst e_s0_21
    exact hJ1
  · rw [if_neg c13] at e_s0_21
    refine g_iconst (v := 3) hC (dX12_earns_16) kc_3 ?_
    refine g_goto (tgt := 21) hC (dX12_earns_17) (by decide) ?_
    refine g_sub (lv' := [(0, .int x0), (3, .int x3)]) [0, 3] rfl ?_
    subst e_s0_21
    exact hJ1
/-! LostByStateModel.isBest(IIII)Z -/
theorem dX12_isBest_0 : decode cX12_isBest 0 = .ok (.iconst 0, 1) := by decide +kernel
theorem dX12_isBest_1 : decode cX12_isBest 1 = .ok (.istore 4, 2) := by decide +kernel
theorem dX12_isBest_3 : decode cX12_isBest 3 = .ok (.iload 4, 2) := by decide +kernel
theorem dX12_isBest_5 : decode cX12_isBest 5 = .ok (.bipush 9, 2) := by decide +kernel
theorem dX12_isBest_7 : decode cX12_isBest 7 = .ok (.if_icmp .gt 29, 3) := by decide +kernel
theorem dX12_isBest_10 : decode cX12_isBest 10 = .ok (.iload 4, 2) := by decide +kernel
theorem dX12_isBest_12 : decode cX12_isBest 12 = .ok (.iload_n 1, 1) := by decide +kernel
theorem dX12_isBest_13 : decode cX12_isBest 13 = .ok (.iload_n 2, 1) := by decide +kernel
theorem dX12_isBest_14 : decode cX12_isBest 14 = .ok (.iload_n 3, 1) := by decide +kernel
theorem dX12_isBest_15 : decode cX12_isBest 15 = .ok (.invokestatic 345, 3) := by decide +kernel
theorem dX12_isBest_18 : decode cX12_isBest 18 = .ok (.iload_n 0, 1) := by decide +kernel
theorem dX12_isBest_19 : decode cX12_isBest 19 = .ok (.iload_n 1, 1) := by decide +kernel
theorem dX12_isBest_20 : decode cX12_isBest 20 = .ok (.iload_n 2, 1) := by decide +kernel
theorem dX12_isBest_21 : decode cX12_isBest 21 = .ok (.iload_n 3, 1) := by decide +kernel
theorem dX12_isBest_22 : decode cX12_isBest 22 = .ok (.invokestatic 345, 3) := by decide +kernel
theorem dX12_isBest_25 : decode cX12_isBest 25 = .ok (.if_icmp .le 5, 3) := by decide +kernel
theorem dX12_isBest_28 : decode cX12_isBest 28 = .ok (.iconst 0, 1) := by decide +kernel
theorem dX12_isBest_29 : decode cX12_isBest 29 = .ok (.ireturn, 1) := by decide +kernel
theorem dX12_isBest_30 : decode cX12_isBest 30 = .ok (.iinc 4 1, 3) := by decide +kernel
theorem dX12_isBest_33 : decode cX12_isBest 33 = .ok (.goto (-30), 3) := by decide +kernel
theorem dX12_isBest_36 : decode cX12_isBest 36 = .ok (.iconst 1, 1) := by decide +kernel
theorem dX12_isBest_37 : decode cX12_isBest 37 = .ok (.ireturn, 1) := by decide +kernel
def fX12_isBest_L3 (x0 : Int32) (x1 : Int32) (x2 : Int32) (x3 : Int32) : Nat → Int32 → Option (Int32 ⊕ Unit)
  | 0, _ => none
  | n + 1, x4 => if 9 < x4 then (
    some (.inr ()))
    else (
    if (fX12_earns x4 x1 x2 x3) ≤ (fX12_earns x0 x1 x2 x3) then (
    fX12_isBest_L3 x0 x1 x2 x3 n (x4 + 1))
    else (
    some (.inl 0)))
def fX12_isBest (x0 : Int32) (x1 : Int32) (x2 : Int32) (x3 : Int32) : Option Int32 := (fX12_isBest_L3 x0 x1 x2 x3 4000 0).bind fun q => zs q (fun r => some r)
  (fun (_ : Unit) =>
  some 1)
set_option maxHeartbeats 4000000 in
theorem lX12_isBest_3 {E : zE} {Γ : zT} {d : Nat} {K1 : (Int32 ⊕ Unit) → Prop} (hC : Cx E Γ RX12 cX12_isBest 5 d) {post : Int32 → zM → Prop} (hr : zRi E Γ (some .boolean) post) (hd : 2 ≤ d) (x0 : Int32) (x1 : Int32) (x2 : Int32) (x3 : Int32) (M : zM) (hret : ∀ r : Int32, K1 (.inl r) → post r M) (hx : ∀ (_ : Unit), K1 (.inr ()) → G E Γ 5 36 [] [] M) :
    ∀ (n : Nat) (x4 : Int32), wpO (fX12_isBest_L3 x0 x1 x2 x3 n x4) K1 → G E Γ 5 3 [(0, .int x0), (1, .int x1), (2, .int x2), (3, .int x3), (4, .int x4)] [] M := by
  intro n
  induction n with
  | zero =>
    intro x4 h
    exact (wpO_0 h).elim
  | succ n ih =>
    intro x4 h
    rw [fX12_isBest_L3.eq_2] at h
    refine g_iload (i := 4) (x := x4) hC (dX12_isBest_3) rfl ?_
    refine g_bipush (v := 9) hC (dX12_isBest_5) kb_9 ?_
    refine g_icmp_gt (tgt := 36) hC (dX12_isBest_7) (by decide) (fun c7 => ?_) (fun c7 => ?_)
    · have h := wpO_t c7 h
      refine g_sub (lv' := []) [] rfl ?_
      exact hx () (wpO_s h)
    · have h := wpO_f c7 h
      refine g_iload (i := 4) (x := x4) hC (dX12_isBest_10) rfl ?_
      refine g_iload_n (i := 1) (x := x1) hC (dX12_isBest_12) rfl rfl ?_
      refine g_iload_n (i := 2) (x := x2) hC (dX12_isBest_13) rfl rfl ?_
      refine g_iload_n (i := 3) (x := x3) hC (dX12_isBest_14) rfl rfl ?_
      refine g_callSi ([.int x4, .int x1, .int x2, .int x3]) hC wsX12_345 (dX12_isBest_15) rfl (by omega) (Nat.le_of_ble_eq_true rfl) (cX12_earns_ok (by omega) x4 x1 x2 x3 M (K := fun r => r = fX12_earns x4 x1 x2 x3) rfl) (fun r N q => ?_)
      obtain ⟨rfl, rfl⟩ := q
      refine g_iload_n (i := 0) (x := x0) hC (dX12_isBest_18) rfl rfl ?_
      refine g_iload_n (i := 1) (x := x1) hC (dX12_isBest_19) rfl rfl ?_
      refine g_iload_n (i := 2) (x := x2) hC (dX12_isBest_20) rfl rfl ?_
      refine g_iload_n (i := 3) (x := x3) hC (dX12_isBest_21) rfl rfl ?_
      refine g_callSi ([.int x0, .int x1, .int x2, .int x3]) hC wsX12_345 (dX12_isBest_22) rfl (by omega) (Nat.le_of_ble_eq_true rfl) (cX12_earns_ok (by omega) x0 x1 x2 x3 M (K := fun r => r = fX12_earns x0 x1 x2 x3) rfl) (fun r N q => ?_)
      obtain ⟨rfl, rfl⟩ := q
      refine g_icmp_le (tgt := 30) hC (dX12_isBest_25) (by decide) (fun c25 => ?_) (fun c25 => ?_)
      · have h := wpO_t c25 h
        refine g_iinc (x := x4) (v := (x4 + 1)) (lv2 := [(4, .int (x4 + 1)), (0, .int x0), (1, .int x1), (2, .int x2), (3, .int x3)]) hC (dX12_isBest_30) rfl rfl (by decide) rfl ?_
        refine g_goto (tgt := 3) hC (dX12_isBest_33) (by decide) ?_
        refine g_sub (lv' := [(0, .int x0), (1, .int x1), (2, .int x2), (3, .int x3), (4, .int (x4 + 1))]) [1, 2, 3, 4, 0] rfl ?_
        exact ih _ h
      · have h := wpO_f c25 h
        refine g_iconst (v := 0) hC (dX12_isBest_28) kc_0 ?_
        refine g_zreturn hC hr (dX12_isBest_29) (Or.inl rfl) ?_
        exact hret _ (wpO_s h)
set_option maxHeartbeats 4000000 in
theorem cX12_isBest_ok {E : zE} {d : Nat} (hd : 2 ≤ d) (x0 : Int32) (x1 : Int32) (x2 : Int32) (x3 : Int32) (M : zM) {K : Int32 → Prop} (h : wpO (fX12_isBest x0 x1 x2 x3) K) : CMi E d yX12_isBest cX12_isBest 5 (some .boolean) [.int x0, .int x1, .int x2, .int x3] M (fun r N => M = N ∧ K r) := by
  refine CMi.of (by decide) (Nat.le_of_ble_eq_true rfl) (fun Γ hC hr => ?_)
  have hC : Cx E Γ RX12 cX12_isBest 5 d := hC
  show G E Γ 5 0 [(0, .int x0), (1, .int x1), (2, .int x2), (3, .int x3)] [] M
  unfold fX12_isBest at h
  refine g_iconst (v := 0) hC (dX12_isBest_0) kc_0 ?_
  refine g_istore (i := 4) (lv2 := [(4, .int 0), (0, .int x0), (1, .int x1), (2, .int x2), (3, .int x3)]) hC (dX12_isBest_1) (by decide) rfl ?_
  refine g_sub (lv' := [(0, .int x0), (1, .int x1), (2, .int x2), (3, .int x3), (4, .int 0)]) [1, 2, 3, 4, 0] rfl ?_
  refine wpO_bJ h (fun KL3 hKL3 h => ?_)
  refine lX12_isBest_3 (K1 := KL3) hC hr (by omega) x0 x1 x2 x3 M (fun r h => ?_) (fun _ h => ?_) _ _ h
  · have h := wpO_i (hKL3 _ h)
    exact ⟨rfl, wpO_s h⟩
  · have h := wpO_r (hKL3 _ h)
    refine g_iconst (v := 1) hC (dX12_isBest_36) kc_1 ?_
    refine g_zreturn hC hr (dX12_isBest_37) (Or.inr rfl) ?_
    exact ⟨rfl, wpO_s h⟩
/-! LostByStateModel.rests(II)I -/
theorem dX12_rests_0 : decode cX12_rests 0 = .ok (.aload_n 0, 1) := by decide +kernel
theorem dX12_rests_1 : decode cX12_rests 1 = .ok (.iconst 0, 1) := by decide +kernel
theorem dX12_rests_2 : decode cX12_rests 2 = .ok (.putfield 86, 3) := by decide +kernel
theorem dX12_rests_5 : decode cX12_rests 5 = .ok (.iload_n 1, 1) := by decide +kernel
theorem dX12_rests_6 : decode cX12_rests 6 = .ok (.iconst 0, 1) := by decide +kernel
theorem dX12_rests_7 : decode cX12_rests 7 = .ok (.bipush 20, 2) := by decide +kernel
theorem dX12_rests_9 : decode cX12_rests 9 = .ok (.invokestatic 95, 3) := by decide +kernel
theorem dX12_rests_12 : decode cX12_rests 12 = .ok (.ifCond .eq 12, 3) := by decide +kernel
theorem dX12_rests_15 : decode cX12_rests 15 = .ok (.iload_n 2, 1) := by decide +kernel
theorem dX12_rests_16 : decode cX12_rests 16 = .ok (.iconst 0, 1) := by decide +kernel
theorem dX12_rests_17 : decode cX12_rests 17 = .ok (.iconst 5, 1) := by decide +kernel
theorem dX12_rests_18 : decode cX12_rests 18 = .ok (.invokestatic 95, 3) := by decide +kernel
theorem dX12_rests_21 : decode cX12_rests 21 = .ok (.ifCond .ne 5, 3) := by decide +kernel
theorem dX12_rests_24 : decode cX12_rests 24 = .ok (.iconst (-1), 1) := by decide +kernel
theorem dX12_rests_25 : decode cX12_rests 25 = .ok (.ireturn, 1) := by decide +kernel
theorem dX12_rests_26 : decode cX12_rests 26 = .ok (.iconst 0, 1) := by decide +kernel
theorem dX12_rests_27 : decode cX12_rests 27 = .ok (.istore_n 3, 1) := by decide +kernel
theorem dX12_rests_28 : decode cX12_rests 28 = .ok (.aload_n 0, 1) := by decide +kernel
theorem dX12_rests_29 : decode cX12_rests 29 = .ok (.iconst 0, 1) := by decide +kernel
theorem dX12_rests_30 : decode cX12_rests 30 = .ok (.putfield 89, 3) := by decide +kernel
theorem dX12_rests_33 : decode cX12_rests 33 = .ok (.iconst 0, 1) := by decide +kernel
theorem dX12_rests_34 : decode cX12_rests 34 = .ok (.istore 4, 2) := by decide +kernel
theorem dX12_rests_36 : decode cX12_rests 36 = .ok (.iload 4, 2) := by decide +kernel
theorem dX12_rests_38 : decode cX12_rests 38 = .ok (.bipush 9, 2) := by decide +kernel
theorem dX12_rests_40 : decode cX12_rests 40 = .ok (.if_icmp .gt 73, 3) := by decide +kernel
theorem dX12_rests_43 : decode cX12_rests 43 = .ok (.iconst 0, 1) := by decide +kernel
theorem dX12_rests_44 : decode cX12_rests 44 = .ok (.istore 5, 2) := by decide +kernel
theorem dX12_rests_46 : decode cX12_rests 46 = .ok (.iload 5, 2) := by decide +kernel
theorem dX12_rests_48 : decode cX12_rests 48 = .ok (.bipush 9, 2) := by decide +kernel
theorem dX12_rests_50 : decode cX12_rests 50 = .ok (.if_icmp .gt 57, 3) := by decide +kernel
theorem dX12_rests_53 : decode cX12_rests 53 = .ok (.iload 4, 2) := by decide +kernel
theorem dX12_rests_55 : decode cX12_rests 55 = .ok (.iload 5, 2) := by decide +kernel
theorem dX12_rests_57 : decode cX12_rests 57 = .ok (.iload_n 1, 1) := by decide +kernel
theorem dX12_rests_58 : decode cX12_rests 58 = .ok (.iload_n 2, 1) := by decide +kernel
theorem dX12_rests_59 : decode cX12_rests 59 = .ok (.invokestatic 349, 3) := by decide +kernel
theorem dX12_rests_62 : decode cX12_rests 62 = .ok (.ifCond .eq 39, 3) := by decide +kernel
theorem dX12_rests_65 : decode cX12_rests 65 = .ok (.iload 5, 2) := by decide +kernel
theorem dX12_rests_67 : decode cX12_rests 67 = .ok (.iload 4, 2) := by decide +kernel
theorem dX12_rests_69 : decode cX12_rests 69 = .ok (.iload_n 1, 1) := by decide +kernel
theorem dX12_rests_70 : decode cX12_rests 70 = .ok (.iload_n 2, 1) := by decide +kernel
theorem dX12_rests_71 : decode cX12_rests 71 = .ok (.invokestatic 349, 3) := by decide +kernel
theorem dX12_rests_74 : decode cX12_rests 74 = .ok (.ifCond .ne 6, 3) := by decide +kernel
theorem dX12_rests_77 : decode cX12_rests 77 = .ok (.goto 24, 3) := by decide +kernel
theorem dX12_rests_80 : decode cX12_rests 80 = .ok (.iload_n 3, 1) := by decide +kernel
theorem dX12_rests_81 : decode cX12_rests 81 = .ok (.ifCond .ne 17, 3) := by decide +kernel
theorem dX12_rests_84 : decode cX12_rests 84 = .ok (.aload_n 0, 1) := by decide +kernel
theorem dX12_rests_85 : decode cX12_rests 85 = .ok (.iload 4, 2) := by decide +kernel
theorem dX12_rests_87 : decode cX12_rests 87 = .ok (.i2l, 1) := by decide +kernel
theorem dX12_rests_88 : decode cX12_rests 88 = .ok (.invokevirtual 280, 3) := by decide +kernel
theorem dX12_rests_91 : decode cX12_rests 91 = .ok (.aload_n 0, 1) := by decide +kernel
theorem dX12_rests_92 : decode cX12_rests 92 = .ok (.iload 5, 2) := by decide +kernel
theorem dX12_rests_94 : decode cX12_rests 94 = .ok (.i2l, 1) := by decide +kernel
theorem dX12_rests_95 : decode cX12_rests 95 = .ok (.invokevirtual 280, 3) := by decide +kernel
theorem dX12_rests_98 : decode cX12_rests 98 = .ok (.iinc 3 1, 3) := by decide +kernel
theorem dX12_rests_101 : decode cX12_rests 101 = .ok (.iinc 5 1, 3) := by decide +kernel
theorem dX12_rests_104 : decode cX12_rests 104 = .ok (.goto (-58), 3) := by decide +kernel
theorem dX12_rests_107 : decode cX12_rests 107 = .ok (.iinc 4 1, 3) := by decide +kernel
theorem dX12_rests_110 : decode cX12_rests 110 = .ok (.goto (-74), 3) := by decide +kernel
theorem dX12_rests_113 : decode cX12_rests 113 = .ok (.iload_n 3, 1) := by decide +kernel
theorem dX12_rests_114 : decode cX12_rests 114 = .ok (.ireturn, 1) := by decide +kernel
def fX12_rests_L46 (x1 : Int32) (x2 : Int32) (x4 : Int32) : Nat → Int32 → Int32 → zM → Option (Int32 × zM)
  | 0, _, _, _ => none
  | n + 1, x3, x5, M => if 9 < x5 then (
    some (x3, M))
    else (
    (fX12_isBest x4 x5 x1 x2).bind fun (r3 : Int32) =>
    (if r3 = 0 then (
    some (x3, M))
    else (
    (fX12_isBest x5 x4 x1 x2).bind fun (r5 : Int32) =>
    if r5 = 0 then (
    some (x3, M))
    else (
    (if x3 = 0 then (
    (fX12_tell x4.toInt64 M).bind fun (M88 : zM) =>
    (fX12_tell x5.toInt64 M88).bind fun (M95 : zM) =>
    some M95)
    else (
    some M) : Option zM).bind fun (M_98 : zM) =>
    some (x3 + 1, M_98))) : Option (Int32 × zM)).bind fun (q : Int32 × zM) => zp q fun x3_101 M_101 =>
    fX12_rests_L46 x1 x2 x4 n x3_101 (x5 + 1) M_101)
def fX12_rests_L36 (x1 : Int32) (x2 : Int32) : Nat → Int32 → Int32 → zM → Option (Int32 × zM)
  | 0, _, _, _ => none
  | n + 1, x3, x4, M => if 9 < x4 then (
    some (x3, M))
    else (
    (fX12_rests_L46 x1 x2 x4 4000 x3 0 M).bind fun (q : Int32 × zM) => zp q fun x3_107 M_107 =>
    fX12_rests_L36 x1 x2 n x3_107 (x4 + 1) M_107)
def fX12_rests (x1 : Int32) (x2 : Int32) (M : zM) : Option (Int32 × zM) := zlet (zSI M 36 12 0) fun (M2 : zM) =>
  if (fX12_in x1 0 20) = 0 then (
  some ((-1), M2))
  else (
  if (fX12_in x2 0 5) = 0 then (
  some ((-1), M2))
  else (
  zlet (zSI M2 36 11 0) fun (M30 : zM) =>
  (fX12_rests_L36 x1 x2 4000 0 0 M30).bind fun (q : Int32 × zM) => zp q fun x3_113 M_113 =>
  some (x3_113, M_113)))
set_option maxHeartbeats 4000000 in
theorem lX12_rests_46 {E : zE} {Γ : zT} {d : Nat} {K1 : (Int32 × zM) → Prop} (hC : Cx E Γ RX12 cX12_rests 6 d) (hd : 3 ≤ d) (x1 : Int32) (x2 : Int32) (x4 : Int32) (hx : ∀ (x3_107 : Int32) (M_107 : zM), K1 (x3_107, M_107) → G E Γ 6 107 [(0, .ref 36), (1, .int x1), (2, .int x2), (3, .int x3_107), (4, .int x4)] [] M_107) :
    ∀ (n : Nat) (x3 : Int32) (x5 : Int32) (M : zM), wpO (fX12_rests_L46 x1 x2 x4 n x3 x5 M) K1 → G E Γ 6 46 [(0, .ref 36), (1, .int x1), (2, .int x2), (3, .int x3), (4, .int x4), (5, .int x5)] [] M := by
  intro n
  induction n with
  | zero =>
    intro x3 x5 M h
    exact (wpO_0 h).elim
  | succ n ih =>
    intro x3 x5 M h
    rw [fX12_rests_L46.eq_2] at h
    refine g_iload (i := 5) (x := x5) hC (dX12_rests_46) rfl ?_
    refine g_bipush (v := 9) hC (dX12_rests_48) kb_9 ?_
    refine g_icmp_gt (tgt := 107) hC (dX12_rests_50) (by decide) (fun c50 => ?_) (fun c50 => ?_)
    · have h := wpO_t c50 h
      refine g_sub (lv' := [(0, .ref 36), (1, .int x1), (2, .int x2), (3, .int x3), (4, .int x4)]) [0, 1, 2, 3, 4] rfl ?_
      exact hx _ _ (wpO_s h)
    · have h := wpO_f c50 h
      refine g_iload (i := 4) (x := x4) hC (dX12_rests_53) rfl ?_
      refine g_iload (i := 5) (x := x5) hC (dX12_rests_55) rfl ?_
      refine g_iload_n (i := 1) (x := x1) hC (dX12_rests_57) rfl rfl ?_
      refine g_iload_n (i := 2) (x := x2) hC (dX12_rests_58) rfl rfl ?_
      have h := wpO_b h
      refine g_callSi ([.int x4, .int x5, .int x1, .int x2]) hC wsX12_349 (dX12_rests_59) rfl (by omega) (Nat.le_of_ble_eq_true rfl) (cX12_isBest_ok (by omega) x4 x5 x1 x2 M h) (fun r3 N q => ?_)
      obtain ⟨rfl, h⟩ := q
      refine wpO_bJ h (fun KJ4 hKJ4 h => ?_)
      have hJ4 : ∀ (x3_101 : Int32) (M_101 : zM), KJ4 (x3_101, M_101) → G E Γ 6 101 [(0, .ref 36), (1, .int x1), (2, .int x2), (3, .int x3_101), (4, .int x4), (5, .int x5)] [] M_101 := by
        intro x3_101 M_101 h
        have h := hKJ4 _ h
        have h := wpO_p h
        refine g_iinc (x := x5) (v := (x5 + 1)) (lv2 := [(5, .int (x5 + 1)), (0, .ref 36), (1, .int x1), (2, .int x2), (3, .int x3_101), (4, .int x4)]) hC (dX12_rests_101) rfl rfl (by decide) rfl ?_
        refine g_goto (tgt := 46) hC (dX12_rests_104) (by decide) ?_
        refine g_sub (lv' := [(0, .ref 36), (1, .int x1), (2, .int x2), (3, .int x3_101), (4, .int x4), (5, .int (x5 + 1))]) [1, 2, 3, 4, 5, 0] rfl ?_
        exact ih _ _ _ h
      refine g_if_eq (tgt := 101) hC (dX12_rests_62) (by decide) (fun c62 => ?_) (fun c62 => ?_)
      · have h := wpO_t c62 h
        exact hJ4 _ _ (wpO_s h)
      · have h := wpO_f c62 h
        refine g_iload (i := 5) (x := x5) hC (dX12_rests_65) rfl ?_
        refine g_iload (i := 4) (x := x4) hC (dX12_rests_67) rfl ?_
        refine g_iload_n (i := 1) (x := x1) hC (dX12_rests_69) rfl rfl ?_
        refine g_iload_n (i := 2) (x := x2) hC (dX12_rests_70) rfl rfl ?_
        have h := wpO_b h
        refine g_callSi ([.int x5, .int x4, .int x1, .int x2]) hC wsX12_349 (dX12_rests_71) rfl (by omega) (Nat.le_of_ble_eq_true rfl) (cX12_isBest_ok (by omega) x5 x4 x1 x2 M h) (fun r5 N q => ?_)
        obtain ⟨rfl, h⟩ := q
        refine g_if_ne (tgt := 80) hC (dX12_rests_74) (by decide) (fun c74 => ?_) (fun c74 => ?_)
        · have h := wpO_f c74 h
          refine g_iload_n (i := 3) (x := x3) hC (dX12_rests_80) rfl rfl ?_
          refine wpO_bJ h (fun KJ6 hKJ6 h => ?_)
          have hJ6 : ∀ (M_98 : zM), KJ6 M_98 → G E Γ 6 98 [(0, .ref 36), (1, .int x1), (2, .int x2), (3, .int x3), (4, .int x4), (5, .int x5)] [] M_98 := by
            intro M_98 h
            have h := hKJ6 _ h
            refine g_iinc (x := x3) (v := (x3 + 1)) (lv2 := [(3, .int (x3 + 1)), (0, .ref 36), (1, .int x1), (2, .int x2), (4, .int x4), (5, .int x5)]) hC (dX12_rests_98) rfl rfl (by decide) rfl ?_
            refine g_sub (lv' := [(0, .ref 36), (1, .int x1), (2, .int x2), (3, .int (x3 + 1)), (4, .int x4), (5, .int x5)]) [1, 2, 3, 0, 4, 5] rfl ?_
            exact hJ4 _ _ (wpO_s h)
          refine g_if_ne (tgt := 98) hC (dX12_rests_81) (by decide) (fun c81 => ?_) (fun c81 => ?_)
          · have h := wpO_f c81 h
            exact hJ6 _ (wpO_s h)
          · have h := wpO_t c81 h
            refine g_aload_n (i := 0) (x := 36) hC (dX12_rests_84) rfl rfl ?_
            refine g_iload (i := 4) (x := x4) hC (dX12_rests_85) rfl ?_
            refine g_i2l hC (dX12_rests_87) ?_
            have h := wpO_b h
            refine g_callVv ([.long x4.toInt64]) hC wvX12_280 (dX12_rests_88) rfl rfl (by omega) (Nat.le_of_ble_eq_true rfl) (cX12_tell_ok (by omega) x4.toInt64 M h) (fun M88 h => ?_)
            refine g_aload_n (i := 0) (x := 36) hC (dX12_rests_91) rfl rfl ?_
            refine g_iload (i := 5) (x := x5) hC (dX12_rests_92) rfl ?_
            refine g_i2l hC (dX12_rests_94) ?_
            have h := wpO_b h
            refine g_callVv ([.long x5.toInt64]) hC wvX12_280 (dX12_rests_95) rfl rfl (by omega) (Nat.le_of_ble_eq_true rfl) (cX12_tell_ok (by omega) x5.toInt64 M88 h) (fun M95 h => ?_)
            exact hJ6 _ (wpO_s h)
        · have h := wpO_t c74 h
          refine g_goto (tgt := 101) hC (dX12_rests_77) (by decide) ?_
          exact hJ4 _ _ (wpO_s h)
set_option maxHeartbeats 4000000 in
theorem lX12_rests_36 {E : zE} {Γ : zT} {d : Nat} {K1 : (Int32 × zM) → Prop} (hC : Cx E Γ RX12 cX12_rests 6 d) (hd : 3 ≤ d) (x1 : Int32) (x2 : Int32) (hx : ∀ (x3_113 : Int32) (M_113 : zM), K1 (x3_113, M_113) → G E Γ 6 113 [(3, .int x3_113)] [] M_113) :
    ∀ (n : Nat) (x3 : Int32) (x4 : Int32) (M : zM), wpO (fX12_rests_L36 x1 x2 n x3 x4 M) K1 → G E Γ 6 36 [(0, .ref 36), (1, .int x1), (2, .int x2), (3, .int x3), (4, .int x4)] [] M := by
  intro n
  induction n with
  | zero =>
    intro x3 x4 M h
    exact (wpO_0 h).elim
  | succ n ih =>
    intro x3 x4 M h
    rw [fX12_rests_L36.eq_2] at h
    refine g_iload (i := 4) (x := x4) hC (dX12_rests_36) rfl ?_
    refine g_bipush (v := 9) hC (dX12_rests_38) kb_9 ?_
    refine g_icmp_gt (tgt := 113) hC (dX12_rests_40) (by decide) (fun c40 => ?_) (fun c40 => ?_)
    · have h := wpO_t c40 h
      refine g_sub (lv' := [(3, .int x3)]) [3] rfl ?_
      exact hx _ _ (wpO_s h)
    · have h := wpO_f c40 h
      refine g_iconst (v := 0) hC (dX12_rests_43) kc_0 ?_
      refine g_istore (i := 5) (lv2 := [(5, .int 0), (0, .ref 36), (1, .int x1), (2, .int x2), (3, .int x3), (4, .int x4)]) hC (dX12_rests_44) (by decide) rfl ?_
      refine g_sub (lv' := [(0, .ref 36), (1, .int x1), (2, .int x2), (3, .int x3), (4, .int x4), (5, .int 0)]) [1, 2, 3, 4, 5, 0] rfl ?_
      refine wpO_bJ h (fun KL46 hKL46 h => ?_)
      refine lX12_rests_46 (K1 := KL46) hC (by omega) x1 x2 x4 (fun x3_107 M_107 h => ?_) _ _ _ _ h
      have h := hKL46 _ h
      have h := wpO_p h
      refine g_iinc (x := x4) (v := (x4 + 1)) (lv2 := [(4, .int (x4 + 1)), (0, .ref 36), (1, .int x1), (2, .int x2), (3, .int x3_107)]) hC (dX12_rests_107) rfl rfl (by decide) rfl ?_
      refine g_goto (tgt := 36) hC (dX12_rests_110) (by decide) ?_
      refine g_sub (lv' := [(0, .ref 36), (1, .int x1), (2, .int x2), (3, .int x3_107), (4, .int (x4 + 1))]) [1, 2, 3, 4, 0] rfl ?_
      exact ih _ _ _ h
set_option maxHeartbeats 4000000 in
theorem cX12_rests_ok {E : zE} {d : Nat} (hd : 3 ≤ d) (x1 : Int32) (x2 : Int32) (M : zM) {K : (Int32 × zM) → Prop} (h : wpO (fX12_rests x1 x2 M) K) : CMi E d yX12_rests cX12_rests 6 (some .int) [.ref 36, .int x1, .int x2] M (fun r N => K (r, N)) := by
  refine CMi.of (by decide) (Nat.le_of_ble_eq_true rfl) (fun Γ hC hr => ?_)
  have hC : Cx E Γ RX12 cX12_rests 6 d := hC
  show G E Γ 6 0 [(0, .ref 36), (1, .int x1), (2, .int x2)] [] M
  unfold fX12_rests at h
  refine g_aload_n (i := 0) (x := 36) hC (dX12_rests_0) rfl rfl ?_
  refine g_iconst (v := 0) hC (dX12_rests_1) kc_0 ?_
  refine g_putI hC fpX12_86 (dX12_rests_2) rfl rfl rfl rfl ?_
  refine g_nmM (fun M2 e_M2 => ?_)
  have h := wpO_n e_M2 h
  refine g_iload_n (i := 1) (x := x1) hC (dX12_rests_5) rfl rfl ?_
  refine g_iconst (v := 0) hC (dX12_rests_6) kc_0 ?_
  refine g_bipush (v := 20) hC (dX12_rests_7) kb_20 ?_
  refine g_callSi ([.int x1, .int 0, .int 20]) hC wsX12_95 (dX12_rests_9) rfl (by omega) (Nat.le_of_ble_eq_true rfl) (cX12_in_ok (by omega) x1 0 20 M2 (K := fun r => r = fX12_in x1 0 20) rfl) (fun r N q => ?_)
  obtain ⟨rfl, rfl⟩ := q
  refine g_if_eq (tgt := 24) hC (dX12_rests_12) (by decide) (fun c12 => ?_) (fun c12 => ?_)
  · have h := wpO_t c12 h
    refine g_iconst (v := (-1)) hC (dX12_rests_24) kc_m1 ?_
    refine g_ireturn hC hr (dX12_rests_25) ?_
    exact wpO_s h
  · have h := wpO_f c12 h
    refine g_iload_n (i := 2) (x := x2) hC (dX12_rests_15) rfl rfl ?_
    refine g_iconst (v := 0) hC (dX12_rests_16) kc_0 ?_
    refine g_iconst (v := 5) hC (dX12_rests_17) kc_5 ?_
    refine g_callSi ([.int x2, .int 0, .int 5]) hC wsX12_95 (dX12_rests_18) rfl (by omega) (Nat.le_of_ble_eq_true rfl) (cX12_in_ok (by omega) x2 0 5 M2 (K := fun r => r = fX12_in x2 0 5) rfl) (fun r N q => ?_)
    obtain ⟨rfl, rfl⟩ := q
    refine g_if_ne (tgt := 26) hC (dX12_rests_21) (by decide) (fun c21 => ?_) (fun c21 => ?_)
    · have h := wpO_f c21 h
      refine g_iconst (v := 0) hC (dX12_rests_26) kc_0 ?_
      refine g_istore_n (i := 3) (lv2 := [(3, .int 0), (0, .ref 36), (1, .int x1), (2, .int x2)]) hC (dX12_rests_27) rfl (by decide) rfl ?_
      refine g_aload_n (i := 0) (x := 36) hC (dX12_rests_28) rfl rfl ?_
      refine g_iconst (v := 0) hC (dX12_rests_29) kc_0 ?_
      refine g_putI hC fpX12_89 (dX12_rests_30) rfl rfl rfl rfl ?_
      refine g_nmM (fun M30 e_M30 => ?_)
      have h := wpO_n e_M30 h
      refine g_iconst (v := 0) hC (dX12_rests_33) kc_0 ?_
      refine g_istore (i := 4) (lv2 := [(4, .int 0), (3, .int 0), (0, .ref 36), (1, .int x1), (2, .int x2)]) hC (dX12_rests_34) (by decide) rfl ?_
      refine g_sub (lv' := [(0, .ref 36), (1, .int x1), (2, .int x2), (3, .int 0), (4, .int 0)]) [2, 3, 4, 1, 0] rfl ?_
      refine wpO_bJ h (fun KL36 hKL36 h => ?_)
      refine lX12_rests_36 (K1 := KL36) hC (by omega) x1 x2 (fun x3_113 M_113 h => ?_) _ _ _ _ h
      have h := hKL36 _ h
      have h := wpO_p h
      refine g_iload_n (i := 3) (x := x3_113) hC (dX12_rests_113) rfl rfl ?_
      refine g_ireturn hC hr (dX12_rests_114) ?_
      exact wpO_s h
    · have h := wpO_t c21 h
      refine g_iconst (v := (-1)) hC (dX12_rests_24) kc_m1 ?_
      refine g_ireturn hC hr (dX12_rests_25) ?_
      exact wpO_s h
/-! LostByStateModel.getting()I -/
theorem dX12_getting_0 : decode cX12_getting 0 = .ok (.iconst 0, 1) := by decide +kernel
theorem dX12_getting_1 : decode cX12_getting 1 = .ok (.istore_n 1, 1) := by decide +kernel
theorem dX12_getting_2 : decode cX12_getting 2 = .ok (.iconst 0, 1) := by decide +kernel
theorem dX12_getting_3 : decode cX12_getting 3 = .ok (.istore_n 2, 1) := by decide +kernel
theorem dX12_getting_4 : decode cX12_getting 4 = .ok (.iload_n 2, 1) := by decide +kernel
theorem dX12_getting_5 : decode cX12_getting 5 = .ok (.sipush 256, 3) := by decide +kernel
theorem dX12_getting_8 : decode cX12_getting 8 = .ok (.if_icmp .ge 29, 3) := by decide +kernel
theorem dX12_getting_11 : decode cX12_getting 11 = .ok (.iload_n 1, 1) := by decide +kernel
theorem dX12_getting_12 : decode cX12_getting 12 = .ok (.aload_n 0, 1) := by decide +kernel
theorem dX12_getting_13 : decode cX12_getting 13 = .ok (.aload_n 0, 1) := by decide +kernel
theorem dX12_getting_14 : decode cX12_getting 14 = .ok (.getfield 9, 3) := by decide +kernel
theorem dX12_getting_17 : decode cX12_getting 17 = .ok (.iload_n 2, 1) := by decide +kernel
theorem dX12_getting_18 : decode cX12_getting 18 = .ok (.invokevirtual 261, 3) := by decide +kernel
theorem dX12_getting_21 : decode cX12_getting 21 = .ok (.ifCond .lt 7, 3) := by decide +kernel
theorem dX12_getting_24 : decode cX12_getting 24 = .ok (.iconst 1, 1) := by decide +kernel
theorem dX12_getting_25 : decode cX12_getting 25 = .ok (.goto 4, 3) := by decide +kernel
theorem dX12_getting_28 : decode cX12_getting 28 = .ok (.iconst 0, 1) := by decide +kernel
theorem dX12_getting_29 : decode cX12_getting 29 = .ok (.iadd, 1) := by decide +kernel
theorem dX12_getting_30 : decode cX12_getting 30 = .ok (.istore_n 1, 1) := by decide +kernel
theorem dX12_getting_31 : decode cX12_getting 31 = .ok (.iinc 2 1, 3) := by decide +kernel
theorem dX12_getting_34 : decode cX12_getting 34 = .ok (.goto (-30), 3) := by decide +kernel
theorem dX12_getting_37 : decode cX12_getting 37 = .ok (.iload_n 1, 1) := by decide +kernel
theorem dX12_getting_38 : decode cX12_getting 38 = .ok (.ireturn, 1) := by decide +kernel
def fX12_getting_L4 : Nat → Int32 → Int32 → zM → Option (Int32 × zM)
  | 0, _, _, _ => none
  | n + 1, x1, x2, M => if 256 ≤ x2 then (
    some (x1, M))
    else (
    (fX12_gotBy 37 x2 M).bind fun (q : Int32 × zM) => zp q fun r1 M18 =>
    zlet (if r1 < 0 then (
    0)
    else (
    1)) fun (s0_29 : Int32) =>
    zlet (x1 + s0_29) fun (x1_30 : Int32) =>
    fX12_getting_L4 n x1_30 (x2 + 1) M18)
def fX12_getting  (M : zM) : Option (Int32 × zM) := (fX12_getting_L4 4000 0 0 M).bind fun (q : Int32 × zM) => zp q fun x1_37 M_37 =>
  some (x1_37, M_37)
set_option maxHeartbeats 4000000 in
theorem lX12_getting_4 {E : zE} {Γ : zT} {d : Nat} {K1 : (Int32 × zM) → Prop} (hC : Cx E Γ RX12 cX12_getting 3 d) (hd : 107 ≤ d) (hx : ∀ (x1_37 : Int32) (M_37 : zM), K1 (x1_37, M_37) → G E Γ 3 37 [(1, .int x1_37)] [] M_37) :
    ∀ (n : Nat) (x1 : Int32) (x2 : Int32) (M : zM), wpO (fX12_getting_L4 n x1 x2 M) K1 → G E Γ 3 4 [(0, .ref 36), (1, .int x1), (2, .int x2)] [] M := by
  intro n
  induction n with
  | zero =>
    intro x1 x2 M h
    exact (wpO_0 h).elim
  | succ n ih =>
    intro x1 x2 M h
    rw [fX12_getting_L4.eq_2] at h
    refine g_iload_n (i := 2) (x := x2) hC (dX12_getting_4) rfl rfl ?_
    refine g_sipush (v := 256) hC (dX12_getting_5) ks_256 ?_
    refine g_icmp_ge (tgt := 37) hC (dX12_getting_8) (by decide) (fun c8 => ?_) (fun c8 => ?_)
    · have h := wpO_t c8 h
      refine g_sub (lv' := [(1, .int x1)]) [1] rfl ?_
      exact hx _ _ (wpO_s h)
    · have h := wpO_f c8 h
      refine g_iload_n (i := 1) (x := x1) hC (dX12_getting_11) rfl rfl ?_
      refine g_aload_n (i := 0) (x := 36) hC (dX12_getting_12) rfl rfl ?_
      refine g_aload_n (i := 0) (x := 36) hC (dX12_getting_13) rfl rfl ?_
      refine g_getR (r := 37) hC flX12_9 (dX12_getting_14) rfl rfl rfl ?_
      refine g_iload_n (i := 2) (x := x2) hC (dX12_getting_17) rfl rfl ?_
      have h := wpO_b h
      refine g_callVi ([.ref 37, .int x2]) hC wvX12_261 (dX12_getting_18) rfl rfl (by omega) (Nat.le_of_ble_eq_true rfl) (cX12_gotBy_ok (by omega) 37 x2 M h) (fun r1 M18 h => ?_)
      have h := wpO_p h
      obtain ⟨s0_29, e_s0_29, h⟩ := wpO_l h
      have hJ2 : G E Γ 3 29 [(0, .ref 36), (2, .int x2)] [.int s0_29, .int x1] M18 := by
        refine g_iadd hC (dX12_getting_29) ?_
        refine g_nmi (fun x1_30 e_x1_30 => ?_)
        have h := wpO_n e_x1_30 h
        refine g_istore_n (i := 1) (lv2 := [(1, .int x1_30), (0, .ref 36), (2, .int x2)]) hC (dX12_getting_30) rfl (by decide) rfl ?_
        refine g_iinc (x := x2) (v := (x2 + 1)) (lv2 := [(2, .int (x2 + 1)), (1, .int x1_30), (0, .ref 36)]) hC (dX12_getting_31) rfl rfl (by decide) rfl ?_
        refine g_goto (tgt := 4) hC (dX12_getting_34) (by decide) ?_
        refine g_sub (lv' := [(0, .ref 36), (1, .int x1_30), (2, .int (x2 + 1))]) [2, 1, 0] rfl ?_
        exact ih _ _ _ h
      refine g_if_lt (tgt := 28) hC (dX12_getting_21) (by decide) (fun c21 => ?_) (fun c21 => ?_)
      · rw [if_pos c21] at e_s0_29
        refine g_iconst (v := 0) hC (dX12_getting_28) kc_0 ?_
        refine g_sub (lv' := [(0, .ref 36), (2, .int x2)]) [0, 2] rfl ?_
        subst e_s0_29
        exact hJ2
      · rw [if_neg c21] at e_s0_29
        refine g_iconst (v := 1) hC (dX12_getting_24) kc_1 ?_
        refine g_goto (tgt := 29) hC (dX12_getting_25) (by decide) ?_
        refine g_sub (lv' := [(0, .ref 36), (2, .int x2)]) [0, 2] rfl ?_
        subst e_s0_29
        exact hJ2
set_option maxHeartbeats 4000000 in
theorem cX12_getting_ok {E : zE} {d : Nat} (hd : 107 ≤ d)  (M : zM) {K : (Int32 × zM) → Prop} (h : wpO (fX12_getting  M) K) : CMi E d yX12_getting cX12_getting 3 (some .int) [.ref 36] M (fun r N => K (r, N)) := by
  refine CMi.of (by decide) (Nat.le_of_ble_eq_true rfl) (fun Γ hC hr => ?_)
  have hC : Cx E Γ RX12 cX12_getting 3 d := hC
  show G E Γ 3 0 [(0, .ref 36)] [] M
  unfold fX12_getting at h
  refine g_iconst (v := 0) hC (dX12_getting_0) kc_0 ?_
  refine g_istore_n (i := 1) (lv2 := [(1, .int 0), (0, .ref 36)]) hC (dX12_getting_1) rfl (by decide) rfl ?_
  refine g_iconst (v := 0) hC (dX12_getting_2) kc_0 ?_
  refine g_istore_n (i := 2) (lv2 := [(2, .int 0), (1, .int 0), (0, .ref 36)]) hC (dX12_getting_3) rfl (by decide) rfl ?_
  refine g_sub (lv' := [(0, .ref 36), (1, .int 0), (2, .int 0)]) [2, 1, 0] rfl ?_
  refine wpO_bJ h (fun KL4 hKL4 h => ?_)
  refine lX12_getting_4 (K1 := KL4) hC (by omega)  (fun x1_37 M_37 h => ?_) _ _ _ _ h
  have h := hKL4 _ h
  have h := wpO_p h
  refine g_iload_n (i := 1) (x := x1_37) hC (dX12_getting_37) rfl rfl ?_
  refine g_ireturn hC hr (dX12_getting_38) ?_
  exact wpO_s h
