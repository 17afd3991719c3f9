/-! LostByState$Text.readSets(III[II)I -/
theorem dX9_readSets_0 : decode cX9_readSets 0 = .ok (.aload_n 0, 1) := by decide +kernel
theorem dX9_readSets_1 : decode cX9_readSets 1 = .ok (.getfield 15, 3) := by decide +kernel
theorem dX9_readSets_4 : decode cX9_readSets 4 = .ok (.iload_n 3, 1) := by decide +kernel
theorem dX9_readSets_5 : decode cX9_readSets 5 = .ok (.invokestatic 19, 3) := by decide +kernel
theorem dX9_readSets_8 : decode cX9_readSets 8 = .ok (.istore 6, 2) := by decide +kernel
theorem dX9_readSets_10 : decode cX9_readSets 10 = .ok (.iload 5, 2) := by decide +kernel
theorem dX9_readSets_12 : decode cX9_readSets 12 = .ok (.iconst 1, 1) := by decide +kernel
theorem dX9_readSets_13 : decode cX9_readSets 13 = .ok (.isub, 1) := by decide +kernel
theorem dX9_readSets_14 : decode cX9_readSets 14 = .ok (.istore 7, 2) := by decide +kernel
theorem dX9_readSets_16 : decode cX9_readSets 16 = .ok (.iconst 1, 1) := by decide +kernel
theorem dX9_readSets_17 : decode cX9_readSets 17 = .ok (.istore 8, 2) := by decide +kernel
theorem dX9_readSets_19 : decode cX9_readSets 19 = .ok (.iconst (-1), 1) := by decide +kernel
theorem dX9_readSets_20 : decode cX9_readSets 20 = .ok (.istore 9, 2) := by decide +kernel
theorem dX9_readSets_22 : decode cX9_readSets 22 = .ok (.iconst 0, 1) := by decide +kernel
theorem dX9_readSets_23 : decode cX9_readSets 23 = .ok (.istore 10, 2) := by decide +kernel
theorem dX9_readSets_25 : decode cX9_readSets 25 = .ok (.iload 10, 2) := by decide +kernel
theorem dX9_readSets_27 : decode cX9_readSets 27 = .ok (.iload 6, 2) := by decide +kernel
theorem dX9_readSets_29 : decode cX9_readSets 29 = .ok (.if_icmp .ge 111, 3) := by decide +kernel
theorem dX9_readSets_32 : decode cX9_readSets 32 = .ok (.aload_n 0, 1) := by decide +kernel
theorem dX9_readSets_33 : decode cX9_readSets 33 = .ok (.getfield 9, 3) := by decide +kernel
theorem dX9_readSets_36 : decode cX9_readSets 36 = .ok (.iload 10, 2) := by decide +kernel
theorem dX9_readSets_38 : decode cX9_readSets 38 = .ok (.iaload, 1) := by decide +kernel
theorem dX9_readSets_39 : decode cX9_readSets 39 = .ok (.iload_n 1, 1) := by decide +kernel
theorem dX9_readSets_40 : decode cX9_readSets 40 = .ok (.isub, 1) := by decide +kernel
theorem dX9_readSets_41 : decode cX9_readSets 41 = .ok (.istore 11, 2) := by decide +kernel
theorem dX9_readSets_43 : decode cX9_readSets 43 = .ok (.iload 8, 2) := by decide +kernel
theorem dX9_readSets_45 : decode cX9_readSets 45 = .ok (.ifCond .ne 21, 3) := by decide +kernel
theorem dX9_readSets_48 : decode cX9_readSets 48 = .ok (.aload_n 0, 1) := by decide +kernel
theorem dX9_readSets_49 : decode cX9_readSets 49 = .ok (.getfield 9, 3) := by decide +kernel
theorem dX9_readSets_52 : decode cX9_readSets 52 = .ok (.iload 10, 2) := by decide +kernel
theorem dX9_readSets_54 : decode cX9_readSets 54 = .ok (.iaload, 1) := by decide +kernel
theorem dX9_readSets_55 : decode cX9_readSets 55 = .ok (.bipush 59, 2) := by decide +kernel
theorem dX9_readSets_57 : decode cX9_readSets 57 = .ok (.if_icmp .ne 9, 3) := by decide +kernel
theorem dX9_readSets_60 : decode cX9_readSets 60 = .ok (.iconst 1, 1) := by decide +kernel
theorem dX9_readSets_61 : decode cX9_readSets 61 = .ok (.istore 8, 2) := by decide +kernel
theorem dX9_readSets_63 : decode cX9_readSets 63 = .ok (.goto 71, 3) := by decide +kernel
theorem dX9_readSets_66 : decode cX9_readSets 66 = .ok (.iload 8, 2) := by decide +kernel
theorem dX9_readSets_68 : decode cX9_readSets 68 = .ok (.ifCond .eq 9, 3) := by decide +kernel
theorem dX9_readSets_71 : decode cX9_readSets 71 = .ok (.iinc 7 1, 3) := by decide +kernel
theorem dX9_readSets_74 : decode cX9_readSets 74 = .ok (.iconst (-1), 1) := by decide +kernel
theorem dX9_readSets_75 : decode cX9_readSets 75 = .ok (.istore 9, 2) := by decide +kernel
theorem dX9_readSets_77 : decode cX9_readSets 77 = .ok (.iload 7, 2) := by decide +kernel
theorem dX9_readSets_79 : decode cX9_readSets 79 = .ok (.aload 4, 2) := by decide +kernel
theorem dX9_readSets_81 : decode cX9_readSets 81 = .ok (.arraylength, 1) := by decide +kernel
theorem dX9_readSets_82 : decode cX9_readSets 82 = .ok (.if_icmp .ge 16, 3) := by decide +kernel
theorem dX9_readSets_85 : decode cX9_readSets 85 = .ok (.iload 11, 2) := by decide +kernel
theorem dX9_readSets_87 : decode cX9_readSets 87 = .ok (.iload 9, 2) := by decide +kernel
theorem dX9_readSets_89 : decode cX9_readSets 89 = .ok (.if_icmp .le 9, 3) := by decide +kernel
theorem dX9_readSets_92 : decode cX9_readSets 92 = .ok (.iload 11, 2) := by decide +kernel
theorem dX9_readSets_94 : decode cX9_readSets 94 = .ok (.iload_n 2, 1) := by decide +kernel
theorem dX9_readSets_95 : decode cX9_readSets 95 = .ok (.if_icmp .lt 8, 3) := by decide +kernel
theorem dX9_readSets_98 : decode cX9_readSets 98 = .ok (.iconst (-1), 1) := by decide +kernel
theorem dX9_readSets_99 : decode cX9_readSets 99 = .ok (.iload 10, 2) := by decide +kernel
theorem dX9_readSets_101 : decode cX9_readSets 101 = .ok (.isub, 1) := by decide +kernel
theorem dX9_readSets_102 : decode cX9_readSets 102 = .ok (.ireturn, 1) := by decide +kernel
theorem dX9_readSets_103 : decode cX9_readSets 103 = .ok (.aload 4, 2) := by decide +kernel
theorem dX9_readSets_105 : decode cX9_readSets 105 = .ok (.iload 7, 2) := by decide +kernel
theorem dX9_readSets_107 : decode cX9_readSets 107 = .ok (.iload 8, 2) := by decide +kernel
theorem dX9_readSets_109 : decode cX9_readSets 109 = .ok (.ifCond .eq 7, 3) := by decide +kernel
theorem dX9_readSets_112 : decode cX9_readSets 112 = .ok (.iconst 0, 1) := by decide +kernel
theorem dX9_readSets_113 : decode cX9_readSets 113 = .ok (.goto 8, 3) := by decide +kernel
theorem dX9_readSets_116 : decode cX9_readSets 116 = .ok (.aload 4, 2) := by decide +kernel
theorem dX9_readSets_118 : decode cX9_readSets 118 = .ok (.iload 7, 2) := by decide +kernel
theorem dX9_readSets_120 : decode cX9_readSets 120 = .ok (.iaload, 1) := by decide +kernel
theorem dX9_readSets_121 : decode cX9_readSets 121 = .ok (.iconst 1, 1) := by decide +kernel
theorem dX9_readSets_122 : decode cX9_readSets 122 = .ok (.iload 11, 2) := by decide +kernel
theorem dX9_readSets_124 : decode cX9_readSets 124 = .ok (.ishl, 1) := by decide +kernel
theorem dX9_readSets_125 : decode cX9_readSets 125 = .ok (.ior, 1) := by decide +kernel
theorem dX9_readSets_126 : decode cX9_readSets 126 = .ok (.iastore, 1) := by decide +kernel
theorem dX9_readSets_127 : decode cX9_readSets 127 = .ok (.iload 11, 2) := by decide +kernel
theorem dX9_readSets_129 : decode cX9_readSets 129 = .ok (.istore 9, 2) := by decide +kernel
theorem dX9_readSets_131 : decode cX9_readSets 131 = .ok (.iconst 0, 1) := by decide +kernel
theorem dX9_readSets_132 : decode cX9_readSets 132 = .ok (.istore 8, 2) := by decide +kernel
theorem dX9_readSets_134 : decode cX9_readSets 134 = .ok (.iinc 10 1, 3) := by decide +kernel
theorem dX9_readSets_137 : decode cX9_readSets 137 = .ok (.goto (-112), 3) := by decide +kernel
theorem dX9_readSets_140 : decode cX9_readSets 140 = .ok (.iload 8, 2) := by decide +kernel
theorem dX9_readSets_142 : decode cX9_readSets 142 = .ok (.ifCond .ne 12, 3) := by decide +kernel
theorem dX9_readSets_145 : decode cX9_readSets 145 = .ok (.iload 6, 2) := by decide +kernel
theorem dX9_readSets_147 : decode cX9_readSets 147 = .ok (.aload_n 0, 1) := by decide +kernel
theorem dX9_readSets_148 : decode cX9_readSets 148 = .ok (.getfield 15, 3) := by decide +kernel
theorem dX9_readSets_151 : decode cX9_readSets 151 = .ok (.if_icmp .ge 10, 3) := by decide +kernel
theorem dX9_readSets_154 : decode cX9_readSets 154 = .ok (.iconst (-1), 1) := by decide +kernel
theorem dX9_readSets_155 : decode cX9_readSets 155 = .ok (.iload 6, 2) := by decide +kernel
theorem dX9_readSets_157 : decode cX9_readSets 157 = .ok (.isub, 1) := by decide +kernel
theorem dX9_readSets_158 : decode cX9_readSets 158 = .ok (.goto 10, 3) := by decide +kernel
theorem dX9_readSets_161 : decode cX9_readSets 161 = .ok (.iload 7, 2) := by decide +kernel
theorem dX9_readSets_163 : decode cX9_readSets 163 = .ok (.iload 5, 2) := by decide +kernel
theorem dX9_readSets_165 : decode cX9_readSets 165 = .ok (.isub, 1) := by decide +kernel
theorem dX9_readSets_166 : decode cX9_readSets 166 = .ok (.iconst 1, 1) := by decide +kernel
theorem dX9_readSets_167 : decode cX9_readSets 167 = .ok (.iadd, 1) := by decide +kernel
theorem dX9_readSets_168 : decode cX9_readSets 168 = .ok (.ireturn, 1) := by decide +kernel
def fX9_readSets_L25 (x1 : Int32) (x2 : Int32) (x4 : Nat) (x5 : Int32) (x6 : Int32) : Nat → Int32 → Int32 → Int32 → Int32 → zM → Option ((Int32 × zM) ⊕ (Int32 × Int32 × zM))
  | 0, _, _, _, _, _ => none
  | n + 1, x7, x8, x9, x10, M => if x6 ≤ x10 then (
    some (.inr (x7, x8, M)))
    else (
    if zin x10 80 then (
    zlet ((M.1 2 x10.toNatClampNeg) - x1) fun (x11_41 : Int32) =>
    zj (fun (_ : Unit) =>
    zlet (if x8 = 0 then (
    x7)
    else (
    (x7 + 1))) fun (x7_77 : Int32) =>
    zlet (if x8 = 0 then (
    x9)
    else (
    (-1))) fun (x9_77 : Int32) =>
    if zSH x4 = .inr (0, zLen x4) then (
    if (Int32.ofNat (zLen x4)) ≤ x7_77 then (
    some (.inl ((-1) - x10, M)))
    else (
    if x11_41 ≤ x9_77 then (
    some (.inl ((-1) - x10, M)))
    else (
    if x11_41 < x2 then (
    (if x8 = 0 then (
    if zin x7_77 (zLen x4) then (
    some (M.1 x4 x7_77.toNatClampNeg)) else none)
    else (
    some 0) : Option Int32).bind fun (s0_121 : Int32) =>
    if zin x7_77 (zLen x4) then (
    zlet (zSI M x4 x7_77.toNatClampNeg (s0_121 ||| (zshl 1 x11_41))) fun (M126 : zM) =>
    fX9_readSets_L25 x1 x2 x4 x5 x6 n x7_77 0 x11_41 (x10 + 1) M126) else none)
    else (
    some (.inl ((-1) - x10, M)))))) else none)
    fun J2 =>
    if x8 = 0 then (
    if (M.1 2 x10.toNatClampNeg) = 59 then (
    fX9_readSets_L25 x1 x2 x4 x5 x6 n x7 1 x9 (x10 + 1) M)
    else (
    J2 ()))
    else (
    J2 ())) else none)
def fX9_readSets (x1 : Int32) (x2 : Int32) (x3 : Int32) (x4 : Nat) (x5 : Int32) (M : zM) : Option (Int32 × zM) := zlet (zmin (M.1 1 1) x3) fun (x6_8 : Int32) =>
  zlet (x5 - 1) fun (x7_14 : Int32) =>
  (fX9_readSets_L25 x1 x2 x4 x5 x6_8 4000 x7_14 1 (-1) 0 M).bind fun q => zs q (fun r => some r)
  (fun (q : Int32 × Int32 × zM) => zp q fun x7_140 q => zp q fun x8_140 M_140 =>
  zj (fun (_ : Unit) =>
  some ((-1) - x6_8, M_140))
  fun J8 =>
  if x8_140 = 0 then (
  if (M_140.1 1 1) ≤ x6_8 then (
  some ((x7_140 - x5) + 1, M_140))
  else (
  J8 ()))
  else (
  J8 ()))
set_option maxHeartbeats 4000000 in
theorem lX9_readSets_25 {E : zE} {Γ : zT} {d : Nat} {K1 : ((Int32 × zM) ⊕ (Int32 × Int32 × zM)) → Prop} (hC : Cx E Γ RX9 cX9_readSets 12 d) {post : Int32 → zM → Prop} (hr : zRi E Γ (some .int) post) (hd : 1 ≤ d) (x1 : Int32) (x2 : Int32) (x4 : Nat) (x5 : Int32) (x6 : Int32) (hret : ∀ (r : Int32) (N : zM), K1 (.inl (r, N)) → post r N) (hx : ∀ (x7_140 : Int32) (x8_140 : Int32) (M_140 : zM), K1 (.inr (x7_140, x8_140, M_140)) → G E Γ 12 140 [(0, .ref 1), (5, .int x5), (6, .int x6), (7, .int x7_140), (8, .int x8_140)] [] M_140) :
    ∀ (n : Nat) (x7 : Int32) (x8 : Int32) (x9 : Int32) (x10 : Int32) (M : zM), wpO (fX9_readSets_L25 x1 x2 x4 x5 x6 n x7 x8 x9 x10 M) K1 → G E Γ 12 25 [(0, .ref 1), (1, .int x1), (2, .int x2), (4, .ref x4), (5, .int x5), (6, .int x6), (7, .int x7), (8, .int x8), (9, .int x9), (10, .int x10)] [] M := by
  intro n
  induction n with
  | zero =>
    intro x7 x8 x9 x10 M h
    exact (wpO_0 h).elim
  | succ n ih =>
    intro x7 x8 x9 x10 M h
    rw [fX9_readSets_L25.eq_2] at h
    refine g_iload (i := 10) (x := x10) hC (dX9_readSets_25) rfl ?_
    refine g_iload (i := 6) (x := x6) hC (dX9_readSets_27) rfl ?_
    refine g_icmp_ge (tgt := 140) hC (dX9_readSets_29) (by decide) (fun c29 => ?_) (fun c29 => ?_)
    · have h := wpO_t c29 h
      refine g_sub (lv' := [(0, .ref 1), (5, .int x5), (6, .int x6), (7, .int x7), (8, .int x8)]) [0, 4, 5, 6, 7] rfl ?_
      exact hx _ _ _ (wpO_s h)
    · have h := wpO_f c29 h
      refine g_aload_n (i := 0) (x := 1) hC (dX9_readSets_32) rfl rfl ?_
      refine g_getR (r := 2) hC flX9_9 (dX9_readSets_33) rfl rfl rfl ?_
      refine g_iload (i := 10) (x := x10) hC (dX9_readSets_36) rfl ?_
      obtain ⟨q1, h⟩ := wpO_g h
      refine g_iaload (n := 80) hC (dX9_readSets_38) rfl q1 ?_
      refine g_iload_n (i := 1) (x := x1) hC (dX9_readSets_39) rfl rfl ?_
      refine g_isub hC (dX9_readSets_40) ?_
      refine g_nmi (fun x11_41 e_x11_41 => ?_)
      have h := wpO_n e_x11_41 h
      refine g_istore (i := 11) (lv2 := [(11, .int x11_41), (0, .ref 1), (1, .int x1), (2, .int x2), (4, .ref x4), (5, .int x5), (6, .int x6), (7, .int x7), (8, .int x8), (9, .int x9), (10, .int x10)]) hC (dX9_readSets_41) (by decide) rfl ?_
      refine g_iload (i := 8) (x := x8) hC (dX9_readSets_43) rfl ?_
      refine wpO_j h (fun J2 hkJ2 h => ?_)
      have hJ2 : ∀ (_ : Unit), wpO (J2 ()) K1 → G E Γ 12 66 [(0, .ref 1), (1, .int x1), (2, .int x2), (4, .ref x4), (5, .int x5), (6, .int x6), (7, .int x7), (8, .int x8), (9, .int x9), (10, .int x10), (11, .int x11_41)] [] M := by
        intro _ h
        have h := hkJ2 _ h
        refine g_iload (i := 8) (x := x8) hC (dX9_readSets_66) rfl ?_
        obtain ⟨x7_77, e_x7_77, h⟩ := wpO_l h
        obtain ⟨x9_77, e_x9_77, h⟩ := wpO_l h
        have hJ3 : G E Γ 12 77 [(0, .ref 1), (1, .int x1), (2, .int x2), (4, .ref x4), (5, .int x5), (6, .int x6), (7, .int x7_77), (8, .int x8), (9, .int x9_77), (10, .int x10), (11, .int x11_41)] [] M := by
          refine g_iload (i := 7) (x := x7_77) hC (dX9_readSets_77) rfl ?_
          refine g_aload (i := 4) (x := x4) hC (dX9_readSets_79) rfl ?_
          obtain ⟨q4, h⟩ := wpO_g h
          refine g_alen (ek := 0) (n := (zLen x4)) (v := Int32.ofNat (zLen x4)) hC (dX9_readSets_81) q4 (by decide) rfl ?_
          refine g_icmp_ge (tgt := 98) hC (dX9_readSets_82) (by decide) (fun c82 => ?_) (fun c82 => ?_)
          · have h := wpO_t c82 h
            refine g_iconst (v := (-1)) hC (dX9_readSets_98) kc_m1 ?_
            refine g_iload (i := 10) (x := x10) hC (dX9_readSets_99) rfl ?_
            refine g_isub hC (dX9_readSets_101) ?_
            refine g_ireturn hC hr (dX9_readSets_102) ?_
            exact hret _ _ (wpO_s h)
          · have h := wpO_f c82 h
            refine g_iload (i := 11) (x := x11_41) hC (dX9_readSets_85) rfl ?_
            refine g_iload (i := 9) (x := x9_77) hC (dX9_readSets_87) rfl ?_
            refine g_icmp_le (tgt := 98) hC (dX9_readSets_89) (by decide) (fun c89 => ?_) (fun c89 => ?_)
            · have h := wpO_t c89 h
              refine g_iconst (v := (-1)) hC (dX9_readSets_98) kc_m1 ?_
              refine g_iload (i := 10) (x := x10) hC (dX9_readSets_99) rfl ?_
              refine g_isub hC (dX9_readSets_101) ?_
              refine g_ireturn hC hr (dX9_readSets_102) ?_
              exact hret _ _ (wpO_s h)
            · have h := wpO_f c89 h
              refine g_iload (i := 11) (x := x11_41) hC (dX9_readSets_92) rfl ?_
              refine g_iload_n (i := 2) (x := x2) hC (dX9_readSets_94) rfl rfl ?_
              refine g_icmp_lt (tgt := 103) hC (dX9_readSets_95) (by decide) (fun c95 => ?_) (fun c95 => ?_)
              · have h := wpO_t c95 h
                refine g_aload (i := 4) (x := x4) hC (dX9_readSets_103) rfl ?_
                refine g_iload (i := 7) (x := x7_77) hC (dX9_readSets_105) rfl ?_
                refine g_iload (i := 8) (x := x8) hC (dX9_readSets_107) rfl ?_
                refine wpO_bJ h (fun KJ5 hKJ5 h => ?_)
                have hJ5 : ∀ (s0_121 : Int32), KJ5 s0_121 → G E Γ 12 121 [(0, .ref 1), (1, .int x1), (2, .int x2), (4, .ref x4), (5, .int x5), (6, .int x6), (7, .int x7_77), (10, .int x10), (11, .int x11_41)] [.int s0_121, .int x7_77, .ref x4] M := by
                  intro s0_121 h
                  have h := hKJ5 _ h
                  refine g_iconst (v := 1) hC (dX9_readSets_121) kc_1 ?_
                  refine g_iload (i := 11) (x := x11_41) hC (dX9_readSets_122) rfl ?_
                  refine g_ishl hC (dX9_readSets_124) ?_
                  refine g_ior hC (dX9_readSets_125) ?_
                  obtain ⟨q7, h⟩ := wpO_g h
                  refine g_iastore (n := (zLen x4)) hC (dX9_readSets_126) q4 q7 ?_
                  refine g_nmM (fun M126 e_M126 => ?_)
                  have h := wpO_n e_M126 h
                  refine g_iload (i := 11) (x := x11_41) hC (dX9_readSets_127) rfl ?_
                  refine g_istore (i := 9) (lv2 := [(9, .int x11_41), (0, .ref 1), (1, .int x1), (2, .int x2), (4, .ref x4), (5, .int x5), (6, .int x6), (7, .int x7_77), (10, .int x10), (11, .int x11_41)]) hC (dX9_readSets_129) (by decide) rfl ?_
                  refine g_iconst (v := 0) hC (dX9_readSets_131) kc_0 ?_
                  refine g_istore (i := 8) (lv2 := [(8, .int 0), (9, .int x11_41), (0, .ref 1), (1, .int x1), (2, .int x2), (4, .ref x4), (5, .int x5), (6, .int x6), (7, .int x7_77), (10, .int x10), (11, .int x11_41)]) hC (dX9_readSets_132) (by decide) rfl ?_
                  refine g_iinc (x := x10) (v := (x10 + 1)) (lv2 := [(10, .int (x10 + 1)), (8, .int 0), (9, .int x11_41), (0, .ref 1), (1, .int x1), (2, .int x2), (4, .ref x4), (5, .int x5), (6, .int x6), (7, .int x7_77), (11, .int x11_41)]) hC (dX9_readSets_134) rfl rfl (by decide) rfl ?_
                  refine g_goto (tgt := 25) hC (dX9_readSets_137) (by decide) ?_
                  refine g_sub (lv' := [(0, .ref 1), (1, .int x1), (2, .int x2), (4, .ref x4), (5, .int x5), (6, .int x6), (7, .int x7_77), (8, .int 0), (9, .int x11_41), (10, .int (x10 + 1))]) [3, 4, 5, 6, 7, 8, 9, 1, 2, 0] rfl ?_
                  exact ih _ _ _ _ _ h
                refine g_if_eq (tgt := 116) hC (dX9_readSets_109) (by decide) (fun c109 => ?_) (fun c109 => ?_)
                · have h := wpO_t c109 h
                  refine g_aload (i := 4) (x := x4) hC (dX9_readSets_116) rfl ?_
                  refine g_iload (i := 7) (x := x7_77) hC (dX9_readSets_118) rfl ?_
                  obtain ⟨q6, h⟩ := wpO_g h
                  refine g_iaload (n := (zLen x4)) hC (dX9_readSets_120) q4 q6 ?_
                  refine g_sub (lv' := [(0, .ref 1), (1, .int x1), (2, .int x2), (4, .ref x4), (5, .int x5), (6, .int x6), (7, .int x7_77), (10, .int x10), (11, .int x11_41)]) [0, 1, 2, 3, 4, 5, 6, 9, 10] rfl ?_
                  exact hJ5 _ (wpO_s h)
                · have h := wpO_f c109 h
                  refine g_iconst (v := 0) hC (dX9_readSets_112) kc_0 ?_
                  refine g_goto (tgt := 121) hC (dX9_readSets_113) (by decide) ?_
                  refine g_sub (lv' := [(0, .ref 1), (1, .int x1), (2, .int x2), (4, .ref x4), (5, .int x5), (6, .int x6), (7, .int x7_77), (10, .int x10), (11, .int x11_41)]) [0, 1, 2, 3, 4, 5, 6, 9, 10] rfl ?_
                  exact hJ5 _ (wpO_s h)
              · have h := wpO_f c95 h
                refine g_iconst (v := (-1)) hC (dX9_readSets_98) kc_m1 ?_
                refine g_iload (i := 10) (x := x10) hC (dX9_readSets_99) rfl ?_
                refine g_isub hC (dX9_readSets_101) ?_
                refine g_ireturn hC hr (dX9_readSets_102) ?_
                exact hret _ _ (wpO_s h)
        refine g_if_eq (tgt := 77) hC (dX9_readSets_68) (by decide) (fun c68 => ?_) (fun c68 => ?_)
        · rw [if_pos c68] at e_x7_77 e_x9_77
          subst e_x7_77
          subst e_x9_77
          exact hJ3
        · rw [if_neg c68] at e_x7_77 e_x9_77
          refine g_iinc (x := x7) (v := (x7 + 1)) (lv2 := [(7, .int (x7 + 1)), (0, .ref 1), (1, .int x1), (2, .int x2), (4, .ref x4), (5, .int x5), (6, .int x6), (8, .int x8), (9, .int x9), (10, .int x10), (11, .int x11_41)]) hC (dX9_readSets_71) rfl rfl (by decide) rfl ?_
          refine g_iconst (v := (-1)) hC (dX9_readSets_74) kc_m1 ?_
          refine g_istore (i := 9) (lv2 := [(9, .int (-1)), (7, .int (x7 + 1)), (0, .ref 1), (1, .int x1), (2, .int x2), (4, .ref x4), (5, .int x5), (6, .int x6), (8, .int x8), (10, .int x10), (11, .int x11_41)]) hC (dX9_readSets_75) (by decide) rfl ?_
          refine g_sub (lv' := [(0, .ref 1), (1, .int x1), (2, .int x2), (4, .ref x4), (5, .int x5), (6, .int x6), (7, .int (x7 + 1)), (8, .int x8), (9, .int (-1)), (10, .int x10), (11, .int x11_41)]) [2, 3, 4, 5, 6, 7, 1, 8, 0, 9, 10] rfl ?_
          subst e_x7_77
          subst e_x9_77
          exact hJ3
      refine g_if_ne (tgt := 66) hC (dX9_readSets_45) (by decide) (fun c45 => ?_) (fun c45 => ?_)
      · have h := wpO_f c45 h
        refine g_sub (lv' := [(0, .ref 1), (1, .int x1), (2, .int x2), (4, .ref x4), (5, .int x5), (6, .int x6), (7, .int x7), (8, .int x8), (9, .int x9), (10, .int x10), (11, .int x11_41)]) [1, 2, 3, 4, 5, 6, 7, 8, 9, 10, 0] rfl ?_
        exact hJ2 () h
      · have h := wpO_t c45 h
        refine g_aload_n (i := 0) (x := 1) hC (dX9_readSets_48) rfl rfl ?_
        refine g_getR (r := 2) hC flX9_9 (dX9_readSets_49) rfl rfl rfl ?_
        refine g_iload (i := 10) (x := x10) hC (dX9_readSets_52) rfl ?_
        refine g_iaload (n := 80) hC (dX9_readSets_54) rfl q1 ?_
        refine g_bipush (v := 59) hC (dX9_readSets_55) kb_59 ?_
        refine g_icmp_ne (tgt := 66) hC (dX9_readSets_57) (by decide) (fun c57 => ?_) (fun c57 => ?_)
        · have h := wpO_f c57 h
          refine g_sub (lv' := [(0, .ref 1), (1, .int x1), (2, .int x2), (4, .ref x4), (5, .int x5), (6, .int x6), (7, .int x7), (8, .int x8), (9, .int x9), (10, .int x10), (11, .int x11_41)]) [1, 2, 3, 4, 5, 6, 7, 8, 9, 10, 0] rfl ?_
          exact hJ2 () h
        · have h := wpO_t c57 h
          refine g_iconst (v := 1) hC (dX9_readSets_60) kc_1 ?_
          refine g_istore (i := 8) (lv2 := [(8, .int 1), (11, .int x11_41), (0, .ref 1), (1, .int x1), (2, .int x2), (4, .ref x4), (5, .int x5), (6, .int x6), (7, .int x7), (9, .int x9), (10, .int x10)]) hC (dX9_readSets_61) (by decide) rfl ?_
          refine g_goto (tgt := 134) hC (dX9_readSets_63) (by decide) ?_
          refine g_iinc (x := x10) (v := (x10 + 1)) (lv2 := [(10, .int (x10 + 1)), (8, .int 1), (11, .int x11_41), (0, .ref 1), (1, .int x1), (2, .int x2), (4, .ref x4), (5, .int x5), (6, .int x6), (7, .int x7), (9, .int x9)]) hC (dX9_readSets_134) rfl rfl (by decide) rfl ?_
          refine g_goto (tgt := 25) hC (dX9_readSets_137) (by decide) ?_
          refine g_sub (lv' := [(0, .ref 1), (1, .int x1), (2, .int x2), (4, .ref x4), (5, .int x5), (6, .int x6), (7, .int x7), (8, .int 1), (9, .int x9), (10, .int (x10 + 1))]) [3, 4, 5, 6, 7, 8, 9, 1, 10, 0] rfl ?_
          exact ih _ _ _ _ _ h
set_option maxHeartbeats 4000000 in
theorem cX9_readSets_ok {E : zE} {d : Nat} (hd : 1 ≤ d) (x1 : Int32) (x2 : Int32) (x3 : Int32) (x4 : Nat) (x5 : Int32) (M : zM) {K : (Int32 × zM) → Prop} (h : wpO (fX9_readSets x1 x2 x3 x4 x5 M) K) : CMi E d yX9_readSets cX9_readSets 12 (some .int) [.ref 1, .int x1, .int x2, .int x3, .ref x4, .int x5] M (fun r N => K (r, N)) := by
  refine CMi.of (by decide) (Nat.le_of_ble_eq_true rfl) (fun Γ hC hr => ?_)
  have hC : Cx E Γ RX9 cX9_readSets 12 d := hC
  show G E Γ 12 0 [(0, .ref 1), (1, .int x1), (2, .int x2), (3, .int x3), (4, .ref x4), (5, .int x5)] [] M
  unfold fX9_readSets at h
  refine g_aload_n (i := 0) (x := 1) hC (dX9_readSets_0) rfl rfl ?_
  refine g_getI hC flX9_15 (dX9_readSets_1) rfl rfl ?_
  refine g_iload_n (i := 3) (x := x3) hC (dX9_readSets_4) rfl rfl ?_
  refine g_min hC wmX9_19 (dX9_readSets_5) (by omega) (Nat.le_of_ble_eq_true rfl) ?_
  refine g_nmi (fun x6_8 e_x6_8 => ?_)
  have h := wpO_n e_x6_8 h
  refine g_istore (i := 6) (lv2 := [(6, .int x6_8), (0, .ref 1), (1, .int x1), (2, .int x2), (3, .int x3), (4, .ref x4), (5, .int x5)]) hC (dX9_readSets_8) (by decide) rfl ?_
  refine g_iload (i := 5) (x := x5) hC (dX9_readSets_10) rfl ?_
  refine g_iconst (v := 1) hC (dX9_readSets_12) kc_1 ?_
  refine g_isub hC (dX9_readSets_13) ?_
  refine g_nmi (fun x7_14 e_x7_14 => ?_)
  have h := wpO_n e_x7_14 h
  refine g_istore (i := 7) (lv2 := [(7, .int x7_14), (6, .int x6_8), (0, .ref 1), (1, .int x1), (2, .int x2), (3, .int x3), (4, .ref x4), (5, .int x5)]) hC (dX9_readSets_14) (by decide) rfl ?_
  refine g_iconst (v := 1) hC (dX9_readSets_16) kc_1 ?_
  refine g_istore (i := 8) (lv2 := [(8, .int 1), (7, .int x7_14), (6, .int x6_8), (0, .ref 1), (1, .int x1), (2, .int x2), (3, .int x3), (4, .ref x4), (5, .int x5)]) hC (dX9_readSets_17) (by decide) rfl ?_
  refine g_iconst (v := (-1)) hC (dX9_readSets_19) kc_m1 ?_
  refine g_istore (i := 9) (lv2 := [(9, .int (-1)), (8, .int 1), (7, .int x7_14), (6, .int x6_8), (0, .ref 1), (1, .int x1), (2, .int x2), (3, .int x3), (4, .ref x4), (5, .int x5)]) hC (dX9_readSets_20) (by decide) rfl ?_
  refine g_iconst (v := 0) hC (dX9_readSets_22) kc_0 ?_
  refine g_istore (i := 10) (lv2 := [(10, .int 0), (9, .int (-1)), (8, .int 1), (7, .int x7_14), (6, .int x6_8), (0, .ref 1), (1, .int x1), (2, .int x2), (3, .int x3), (4, .ref x4), (5, .int x5)]) hC (dX9_readSets_23) (by decide) rfl ?_
  refine g_sub (lv' := [(0, .ref 1), (1, .int x1), (2, .int x2), (4, .ref x4), (5, .int x5), (6, .int x6_8), (7, .int x7_14), (8, .int 1), (9, .int (-1)), (10, .int 0)]) [5, 6, 7, 9, 10, 4, 3, 2, 1, 0] rfl ?_
  refine wpO_bJ h (fun KL25 hKL25 h => ?_)
  refine lX9_readSets_25 (K1 := KL25) hC hr (by omega) x1 x2 x4 x5 x6_8 (fun r N h => ?_) (fun x7_140 x8_140 M_140 h => ?_) _ _ _ _ _ _ h
  · have h := wpO_i (hKL25 _ h)
    exact wpO_s h
  · have h := wpO_r (hKL25 _ h)
    have h := wpO_p h
    have h := wpO_p h
    refine g_iload (i := 8) (x := x8_140) hC (dX9_readSets_140) rfl ?_
    refine wpO_j h (fun J8 hkJ8 h => ?_)
    have hJ8 : ∀ (_ : Unit), wpO (J8 ()) K → G E Γ 12 154 [(6, .int x6_8)] [] M_140 := by
      intro _ h
      have h := hkJ8 _ h
      refine g_iconst (v := (-1)) hC (dX9_readSets_154) kc_m1 ?_
      refine g_iload (i := 6) (x := x6_8) hC (dX9_readSets_155) rfl ?_
      refine g_isub hC (dX9_readSets_157) ?_
      refine g_goto (tgt := 168) hC (dX9_readSets_158) (by decide) ?_
      refine g_ireturn hC hr (dX9_readSets_168) ?_
      exact wpO_s h
    refine g_if_ne (tgt := 154) hC (dX9_readSets_142) (by decide) (fun c142 => ?_) (fun c142 => ?_)
    · have h := wpO_f c142 h
      refine g_sub (lv' := [(6, .int x6_8)]) [2] rfl ?_
      exact hJ8 () h
    · have h := wpO_t c142 h
      refine g_iload (i := 6) (x := x6_8) hC (dX9_readSets_145) rfl ?_
      refine g_aload_n (i := 0) (x := 1) hC (dX9_readSets_147) rfl rfl ?_
      refine g_getI hC flX9_15 (dX9_readSets_148) rfl rfl ?_
      refine g_icmp_ge (tgt := 161) hC (dX9_readSets_151) (by decide) (fun c151 => ?_) (fun c151 => ?_)
      · have h := wpO_t c151 h
        refine g_iload (i := 7) (x := x7_140) hC (dX9_readSets_161) rfl ?_
        refine g_iload (i := 5) (x := x5) hC (dX9_readSets_163) rfl ?_
        refine g_isub hC (dX9_readSets_165) ?_
        refine g_iconst (v := 1) hC (dX9_readSets_166) kc_1 ?_
        refine g_iadd hC (dX9_readSets_167) ?_
        refine g_ireturn hC hr (dX9_readSets_168) ?_
        exact wpO_s h
      · have h := wpO_f c151 h
        refine g_sub (lv' := [(6, .int x6_8)]) [2] rfl ?_
        exact hJ8 () h
/-! LostByState$Text.readDigits([I)I -/
theorem dX9_readDigits_0 : decode cX9_readDigits 0 = .ok (.iconst 0, 1) := by decide +kernel
theorem dX9_readDigits_1 : decode cX9_readDigits 1 = .ok (.istore_n 2, 1) := by decide +kernel
theorem dX9_readDigits_2 : decode cX9_readDigits 2 = .ok (.iload_n 2, 1) := by decide +kernel
theorem dX9_readDigits_3 : decode cX9_readDigits 3 = .ok (.aload_n 0, 1) := by decide +kernel
theorem dX9_readDigits_4 : decode cX9_readDigits 4 = .ok (.getfield 15, 3) := by decide +kernel
theorem dX9_readDigits_7 : decode cX9_readDigits 7 = .ok (.if_icmp .ge 53, 3) := by decide +kernel
theorem dX9_readDigits_10 : decode cX9_readDigits 10 = .ok (.iload_n 2, 1) := by decide +kernel
theorem dX9_readDigits_11 : decode cX9_readDigits 11 = .ok (.aload_n 1, 1) := by decide +kernel
theorem dX9_readDigits_12 : decode cX9_readDigits 12 = .ok (.arraylength, 1) := by decide +kernel
theorem dX9_readDigits_13 : decode cX9_readDigits 13 = .ok (.if_icmp .ge 25, 3) := by decide +kernel
theorem dX9_readDigits_16 : decode cX9_readDigits 16 = .ok (.aload_n 0, 1) := by decide +kernel
theorem dX9_readDigits_17 : decode cX9_readDigits 17 = .ok (.getfield 9, 3) := by decide +kernel
theorem dX9_readDigits_20 : decode cX9_readDigits 20 = .ok (.iload_n 2, 1) := by decide +kernel
theorem dX9_readDigits_21 : decode cX9_readDigits 21 = .ok (.iaload, 1) := by decide +kernel
theorem dX9_readDigits_22 : decode cX9_readDigits 22 = .ok (.bipush 48, 2) := by decide +kernel
theorem dX9_readDigits_24 : decode cX9_readDigits 24 = .ok (.if_icmp .lt 14, 3) := by decide +kernel
theorem dX9_readDigits_27 : decode cX9_readDigits 27 = .ok (.aload_n 0, 1) := by decide +kernel
theorem dX9_readDigits_28 : decode cX9_readDigits 28 = .ok (.getfield 9, 3) := by decide +kernel
theorem dX9_readDigits_31 : decode cX9_readDigits 31 = .ok (.iload_n 2, 1) := by decide +kernel
theorem dX9_readDigits_32 : decode cX9_readDigits 32 = .ok (.iaload, 1) := by decide +kernel
theorem dX9_readDigits_33 : decode cX9_readDigits 33 = .ok (.bipush 57, 2) := by decide +kernel
theorem dX9_readDigits_35 : decode cX9_readDigits 35 = .ok (.if_icmp .le 7, 3) := by decide +kernel
theorem dX9_readDigits_38 : decode cX9_readDigits 38 = .ok (.iconst (-1), 1) := by decide +kernel
theorem dX9_readDigits_39 : decode cX9_readDigits 39 = .ok (.iload_n 2, 1) := by decide +kernel
theorem dX9_readDigits_40 : decode cX9_readDigits 40 = .ok (.isub, 1) := by decide +kernel
theorem dX9_readDigits_41 : decode cX9_readDigits 41 = .ok (.ireturn, 1) := by decide +kernel
theorem dX9_readDigits_42 : decode cX9_readDigits 42 = .ok (.aload_n 1, 1) := by decide +kernel
theorem dX9_readDigits_43 : decode cX9_readDigits 43 = .ok (.iload_n 2, 1) := by decide +kernel
theorem dX9_readDigits_44 : decode cX9_readDigits 44 = .ok (.aload_n 0, 1) := by decide +kernel
theorem dX9_readDigits_45 : decode cX9_readDigits 45 = .ok (.getfield 9, 3) := by decide +kernel
theorem dX9_readDigits_48 : decode cX9_readDigits 48 = .ok (.iload_n 2, 1) := by decide +kernel
theorem dX9_readDigits_49 : decode cX9_readDigits 49 = .ok (.iaload, 1) := by decide +kernel
theorem dX9_readDigits_50 : decode cX9_readDigits 50 = .ok (.bipush 48, 2) := by decide +kernel
theorem dX9_readDigits_52 : decode cX9_readDigits 52 = .ok (.isub, 1) := by decide +kernel
theorem dX9_readDigits_53 : decode cX9_readDigits 53 = .ok (.iastore, 1) := by decide +kernel
theorem dX9_readDigits_54 : decode cX9_readDigits 54 = .ok (.iinc 2 1, 3) := by decide +kernel
theorem dX9_readDigits_57 : decode cX9_readDigits 57 = .ok (.goto (-55), 3) := by decide +kernel
theorem dX9_readDigits_60 : decode cX9_readDigits 60 = .ok (.aload_n 0, 1) := by decide +kernel
theorem dX9_readDigits_61 : decode cX9_readDigits 61 = .ok (.getfield 15, 3) := by decide +kernel
theorem dX9_readDigits_64 : decode cX9_readDigits 64 = .ok (.ireturn, 1) := by decide +kernel
def fX9_readDigits_L2 (x1 : Nat) : Nat → Int32 → zM → Option ((Int32 × zM) ⊕ zM)
  | 0, _, _ => none
  | n + 1, x2, M => if (M.1 1 1) ≤ x2 then (
    some (.inr M))
    else (
    if zSH x1 = .inr (0, zLen x1) then (
    if (Int32.ofNat (zLen x1)) ≤ x2 then (
    some (.inl ((-1) - x2, M)))
    else (
    if zin x2 80 then (
    if (M.1 2 x2.toNatClampNeg) < 48 then (
    some (.inl ((-1) - x2, M)))
    else (
    if (M.1 2 x2.toNatClampNeg) ≤ 57 then (
    if zin x2 (zLen x1) then (
    zlet (zSI M x1 x2.toNatClampNeg ((M.1 2 x2.toNatClampNeg) - 48)) fun (M53 : zM) =>
    fX9_readDigits_L2 x1 n (x2 + 1) M53) else none)
    else (
    some (.inl ((-1) - x2, M))))) else none)) else none)
def fX9_readDigits (x1 : Nat) (M : zM) : Option (Int32 × zM) := (fX9_readDigits_L2 x1 4000 0 M).bind fun q => zs q (fun r => some r)
  (fun (M_60 : zM) =>
  some (M_60.1 1 1, M_60))
set_option maxHeartbeats 4000000 in
theorem lX9_readDigits_2 {E : zE} {Γ : zT} {d : Nat} {K1 : ((Int32 × zM) ⊕ zM) → Prop} (hC : Cx E Γ RX9 cX9_readDigits 3 d) {post : Int32 → zM → Prop} (hr : zRi E Γ (some .int) post) (hd : 0 ≤ d) (x1 : Nat) (hret : ∀ (r : Int32) (N : zM), K1 (.inl (r, N)) → post r N) (hx : ∀ (M_60 : zM), K1 (.inr M_60) → G E Γ 3 60 [(0, .ref 1)] [] M_60) :
    ∀ (n : Nat) (x2 : Int32) (M : zM), wpO (fX9_readDigits_L2 x1 n x2 M) K1 → G E Γ 3 2 [(0, .ref 1), (1, .ref x1), (2, .int x2)] [] M := by
  intro n
  induction n with
  | zero =>
    intro x2 M h
    exact (wpO_0 h).elim
  | succ n ih =>
    intro x2 M h
    rw [fX9_readDigits_L2.eq_2] at h
    refine g_iload_n (i := 2) (x := x2) hC (dX9_readDigits_2) rfl rfl ?_
    refine g_aload_n (i := 0) (x := 1) hC (dX9_readDigits_3) rfl rfl ?_
    refine g_getI hC flX9_15 (dX9_readDigits_4) rfl rfl ?_
    refine g_icmp_ge (tgt := 60) hC (dX9_readDigits_7) (by decide) (fun c7 => ?_) (fun c7 => ?_)
    · have h := wpO_t c7 h
      refine g_sub (lv' := [(0, .ref 1)]) [0] rfl ?_
      exact hx _ (wpO_s h)
    · have h := wpO_f c7 h
      refine g_iload_n (i := 2) (x := x2) hC (dX9_readDigits_10) rfl rfl ?_
      refine g_aload_n (i := 1) (x := x1) hC (dX9_readDigits_11) rfl rfl ?_
      obtain ⟨q1, h⟩ := wpO_g h
      refine g_alen (ek := 0) (n := (zLen x1)) (v := Int32.ofNat (zLen x1)) hC (dX9_readDigits_12) q1 (by decide) rfl ?_
      refine g_icmp_ge (tgt := 38) hC (dX9_readDigits_13) (by decide) (fun c13 => ?_) (fun c13 => ?_)
      · have h := wpO_t c13 h
        refine g_iconst (v := (-1)) hC (dX9_readDigits_38) kc_m1 ?_
        refine g_iload_n (i := 2) (x := x2) hC (dX9_readDigits_39) rfl rfl ?_
        refine g_isub hC (dX9_readDigits_40) ?_
        refine g_ireturn hC hr (dX9_readDigits_41) ?_
        exact hret _ _ (wpO_s h)
      · have h := wpO_f c13 h
        refine g_aload_n (i := 0) (x := 1) hC (dX9_readDigits_16) rfl rfl ?_
        refine g_getR (r := 2) hC flX9_9 (dX9_readDigits_17) rfl rfl rfl ?_
        refine g_iload_n (i := 2) (x := x2) hC (dX9_readDigits_20) rfl rfl ?_
        obtain ⟨q2, h⟩ := wpO_g h
        refine g_iaload (n := 80) hC (dX9_readDigits_21) rfl q2 ?_
        refine g_bipush (v := 48) hC (dX9_readDigits_22) kb_48 ?_
        refine g_icmp_lt (tgt := 38) hC (dX9_readDigits_24) (by decide) (fun c24 => ?_) (fun c24 => ?_)
        · have h := wpO_t c24 h
          refine g_iconst (v := (-1)) hC (dX9_readDigits_38) kc_m1 ?_
          refine g_iload_n (i := 2) (x := x2) hC (dX9_readDigits_39) rfl rfl ?_
          refine g_isub hC (dX9_readDigits_40) ?_
          refine g_ireturn hC hr (dX9_readDigits_41) ?_
          exact hret _ _ (wpO_s h)
        · have h := wpO_f c24 h
          refine g_aload_n (i := 0) (x := 1) hC (dX9_readDigits_27) rfl rfl ?_
          refine g_getR (r := 2) hC flX9_9 (dX9_readDigits_28) rfl rfl rfl ?_
          refine g_iload_n (i := 2) (x := x2) hC (dX9_readDigits_31) rfl rfl ?_
          refine g_iaload (n := 80) hC (dX9_readDigits_32) rfl q2 ?_
          refine g_bipush (v := 57) hC (dX9_readDigits_33) kb_57 ?_
          refine g_icmp_le (tgt := 42) hC (dX9_readDigits_35) (by decide) (fun c35 => ?_) (fun c35 => ?_)
          · have h := wpO_t c35 h
            refine g_aload_n (i := 1) (x := x1) hC (dX9_readDigits_42) rfl rfl ?_
            refine g_iload_n (i := 2) (x := x2) hC (dX9_readDigits_43) rfl rfl ?_
            refine g_aload_n (i := 0) (x := 1) hC (dX9_readDigits_44) rfl rfl ?_
            refine g_getR (r := 2) hC flX9_9 (dX9_readDigits_45) rfl rfl rfl ?_
            refine g_iload_n (i := 2) (x := x2) hC (dX9_readDigits_48) rfl rfl ?_
            refine g_iaload (n := 80) hC (dX9_readDigits_49) rfl q2 ?_
            refine g_bipush (v := 48) hC (dX9_readDigits_50) kb_48 ?_
            refine g_isub hC (dX9_readDigits_52) ?_
            obtain ⟨q3, h⟩ := wpO_g h
            refine g_iastore (n := (zLen x1)) hC (dX9_readDigits_53) q1 q3 ?_
            refine g_nmM (fun M53 e_M53 => ?_)
            have h := wpO_n e_M53 h
            refine g_iinc (x := x2) (v := (x2 + 1)) (lv2 := [(2, .int (x2 + 1)), (0, .ref 1), (1, .ref x1)]) hC (dX9_readDigits_54) rfl rfl (by decide) rfl ?_
            refine g_goto (tgt := 2) hC (dX9_readDigits_57) (by decide) ?_
            refine g_sub (lv' := [(0, .ref 1), (1, .ref x1), (2, .int (x2 + 1))]) [1, 2, 0] rfl ?_
            exact ih _ _ h
          · have h := wpO_f c35 h
            refine g_iconst (v := (-1)) hC (dX9_readDigits_38) kc_m1 ?_
            refine g_iload_n (i := 2) (x := x2) hC (dX9_readDigits_39) rfl rfl ?_
            refine g_isub hC (dX9_readDigits_40) ?_
            refine g_ireturn hC hr (dX9_readDigits_41) ?_
            exact hret _ _ (wpO_s h)
set_option maxHeartbeats 4000000 in
theorem cX9_readDigits_ok {E : zE} {d : Nat} (hd : 0 ≤ d) (x1 : Nat) (M : zM) {K : (Int32 × zM) → Prop} (h : wpO (fX9_readDigits x1 M) K) : CMi E d yX9_readDigits cX9_readDigits 3 (some .int) [.ref 1, .ref x1] M (fun r N => K (r, N)) := by
  refine CMi.of (by decide) (Nat.le_of_ble_eq_true rfl) (fun Γ hC hr => ?_)
  have hC : Cx E Γ RX9 cX9_readDigits 3 d := hC
  show G E Γ 3 0 [(0, .ref 1), (1, .ref x1)] [] M
  unfold fX9_readDigits at h
  refine g_iconst (v := 0) hC (dX9_readDigits_0) kc_0 ?_
  refine g_istore_n (i := 2) (lv2 := [(2, .int 0), (0, .ref 1), (1, .ref x1)]) hC (dX9_readDigits_1) rfl (by decide) rfl ?_
  refine g_sub (lv' := [(0, .ref 1), (1, .ref x1), (2, .int 0)]) [1, 2, 0] rfl ?_
  refine wpO_bJ h (fun KL2 hKL2 h => ?_)
  refine lX9_readDigits_2 (K1 := KL2) hC hr (by omega) x1 (fun r N h => ?_) (fun M_60 h => ?_) _ _ _ h
  · have h := wpO_i (hKL2 _ h)
    exact wpO_s h
  · have h := wpO_r (hKL2 _ h)
    refine g_aload_n (i := 0) (x := 1) hC (dX9_readDigits_60) rfl rfl ?_
    refine g_getI hC flX9_15 (dX9_readDigits_61) rfl rfl ?_
    refine g_ireturn hC hr (dX9_readDigits_64) ?_
    exact wpO_s h
/-! LostByState$Whereabouts.putWith(II)V -/
theorem dX10_putWith_0 : decode cX10_putWith 0 = .ok (.aload_n 0, 1) := by decide +kernel
theorem dX10_putWith_1 : decode cX10_putWith 1 = .ok (.getfield 9, 3) := by decide +kernel
theorem dX10_putWith_4 : decode cX10_putWith 4 = .ok (.iload_n 1, 1) := by decide +kernel
theorem dX10_putWith_5 : decode cX10_putWith 5 = .ok (.iload_n 2, 1) := by decide +kernel
theorem dX10_putWith_6 : decode cX10_putWith 6 = .ok (.iastore, 1) := by decide +kernel
theorem dX10_putWith_7 : decode cX10_putWith 7 = .ok (.aload_n 0, 1) := by decide +kernel
theorem dX10_putWith_8 : decode cX10_putWith 8 = .ok (.getfield 15, 3) := by decide +kernel
theorem dX10_putWith_11 : decode cX10_putWith 11 = .ok (.iload_n 1, 1) := by decide +kernel
theorem dX10_putWith_12 : decode cX10_putWith 12 = .ok (.iconst (-1), 1) := by decide +kernel
theorem dX10_putWith_13 : decode cX10_putWith 13 = .ok (.iastore, 1) := by decide +kernel
theorem dX10_putWith_14 : decode cX10_putWith 14 = .ok (.aload_n 0, 1) := by decide +kernel
theorem dX10_putWith_15 : decode cX10_putWith 15 = .ok (.getfield 18, 3) := by decide +kernel
theorem dX10_putWith_18 : decode cX10_putWith 18 = .ok (.iload_n 1, 1) := by decide +kernel
theorem dX10_putWith_19 : decode cX10_putWith 19 = .ok (.iconst (-1), 1) := by decide +kernel
theorem dX10_putWith_20 : decode cX10_putWith 20 = .ok (.iastore, 1) := by decide +kernel
theorem dX10_putWith_21 : decode cX10_putWith 21 = .ok (.aload_n 0, 1) := by decide +kernel
theorem dX10_putWith_22 : decode cX10_putWith 22 = .ok (.getfield 21, 3) := by decide +kernel
theorem dX10_putWith_25 : decode cX10_putWith 25 = .ok (.iload_n 1, 1) := by decide +kernel
theorem dX10_putWith_26 : decode cX10_putWith 26 = .ok (.iconst (-1), 1) := by decide +kernel
theorem dX10_putWith_27 : decode cX10_putWith 27 = .ok (.iastore, 1) := by decide +kernel
theorem dX10_putWith_28 : decode cX10_putWith 28 = .ok (.return_, 1) := by decide +kernel
def fX10_putWith (x0 : Nat) (x1 : Int32) (x2 : Int32) (M : zM) : Option zM := if zSH x0 = .inl 10 then (
  if zin x1 8 then (
  zlet (zSI M (x0 + 1) x1.toNatClampNeg x2) fun (M6 : zM) =>
  zlet (zSI M6 (x0 + 2) x1.toNatClampNeg (-1)) fun (M13 : zM) =>
  zlet (zSI M13 (x0 + 3) x1.toNatClampNeg (-1)) fun (M20 : zM) =>
  zlet (zSI M20 (x0 + 4) x1.toNatClampNeg (-1)) fun (M27 : zM) =>
  some M27) else none) else none
set_option maxHeartbeats 4000000 in
theorem cX10_putWith_ok {E : zE} {d : Nat} (hd : 0 ≤ d) (x0 : Nat) (x1 : Int32) (x2 : Int32) (M : zM) {K : zM → Prop} (h : wpO (fX10_putWith x0 x1 x2 M) K) : CMv E d yX10_putWith cX10_putWith 3 (none) [.ref x0, .int x1, .int x2] M K := by
  refine CMv.of (by decide) (Nat.le_of_ble_eq_true rfl) (fun Γ hC hr => ?_)
  have hC : Cx E Γ RX10 cX10_putWith 3 d := hC
  show G E Γ 3 0 [(0, .ref x0), (1, .int x1), (2, .int x2)] [] M
  unfold fX10_putWith at h
  refine g_aload_n (i := 0) (x := x0) hC (dX10_putWith_0) rfl rfl ?_
  obtain ⟨q1, h⟩ := wpO_g h
  refine g_getR (r := x0 + 1) hC flX10_9 (dX10_putWith_1) q1 rfl (zRFw1 q1) ?_
  refine g_iload_n (i := 1) (x := x1) hC (dX10_putWith_4) rfl rfl ?_
  refine g_iload_n (i := 2) (x := x2) hC (dX10_putWith_5) rfl rfl ?_
  obtain ⟨q2, h⟩ := wpO_g h
  refine g_iastore (n := 8) hC (dX10_putWith_6) (zSHw1 q1) q2 ?_
  refine g_nmM (fun M6 e_M6 => ?_)
  have h := wpO_n e_M6 h
  refine g_aload_n (i := 0) (x := x0) hC (dX10_putWith_7) rfl rfl ?_
  refine g_getR (r := x0 + 2) hC flX10_15 (dX10_putWith_8) q1 rfl (zRFw2 q1) ?_
  refine g_iload_n (i := 1) (x := x1) hC (dX10_putWith_11) rfl rfl ?_
  refine g_iconst (v := (-1)) hC (dX10_putWith_12) kc_m1 ?_
  refine g_iastore (n := 8) hC (dX10_putWith_13) (zSHw2 q1) q2 ?_
  refine g_nmM (fun M13 e_M13 => ?_)
  have h := wpO_n e_M13 h
  refine g_aload_n (i := 0) (x := x0) hC (dX10_putWith_14) rfl rfl ?_
  refine g_getR (r := x0 + 3) hC flX10_18 (dX10_putWith_15) q1 rfl (zRFw3 q1) ?_
  refine g_iload_n (i := 1) (x := x1) hC (dX10_putWith_18) rfl rfl ?_
  refine g_iconst (v := (-1)) hC (dX10_putWith_19) kc_m1 ?_
  refine g_iastore (n := 8) hC (dX10_putWith_20) (zSHw3 q1) q2 ?_
  refine g_nmM (fun M20 e_M20 => ?_)
  have h := wpO_n e_M20 h
  refine g_aload_n (i := 0) (x := x0) hC (dX10_putWith_21) rfl rfl ?_
  refine g_getR (r := x0 + 4) hC flX10_21 (dX10_putWith_22) q1 rfl (zRFw4 q1) ?_
  refine g_iload_n (i := 1) (x := x1) hC (dX10_putWith_25) rfl rfl ?_
  refine g_iconst (v := (-1)) hC (dX10_putWith_26) kc_m1 ?_
  refine g_iastore (n := 8) hC (dX10_putWith_27) (zSHw4 q1) q2 ?_
  refine g_nmM (fun M27 e_M27 => ?_)
  have h := wpO_n e_M27 h
  refine g_vreturn hC hr (dX10_putWith_28) ?_
  exact wpO_s h
/-! LostByState$Whereabouts.arrive(II)V -/
theorem dX10_arrive_0 : decode cX10_arrive 0 = .ok (.iload_n 1, 1) := by decide +kernel
theorem dX10_arrive_1 : decode cX10_arrive 1 = .ok (.istore_n 3, 1) := by decide +kernel
theorem dX10_arrive_2 : decode cX10_arrive 2 = .ok (.iload_n 3, 1) := by decide +kernel
theorem dX10_arrive_3 : decode cX10_arrive 3 = .ok (.iload_n 1, 1) := by decide +kernel
theorem dX10_arrive_4 : decode cX10_arrive 4 = .ok (.iload_n 2, 1) := by decide +kernel
theorem dX10_arrive_5 : decode cX10_arrive 5 = .ok (.iadd, 1) := by decide +kernel
theorem dX10_arrive_6 : decode cX10_arrive 6 = .ok (.if_icmp .ge 22, 3) := by decide +kernel
theorem dX10_arrive_9 : decode cX10_arrive 9 = .ok (.iload_n 3, 1) := by decide +kernel
theorem dX10_arrive_10 : decode cX10_arrive 10 = .ok (.bipush 8, 2) := by decide +kernel
theorem dX10_arrive_12 : decode cX10_arrive 12 = .ok (.if_icmp .ge 16, 3) := by decide +kernel
theorem dX10_arrive_15 : decode cX10_arrive 15 = .ok (.aload_n 0, 1) := by decide +kernel
theorem dX10_arrive_16 : decode cX10_arrive 16 = .ok (.iload_n 3, 1) := by decide +kernel
theorem dX10_arrive_17 : decode cX10_arrive 17 = .ok (.bipush 6, 2) := by decide +kernel
theorem dX10_arrive_19 : decode cX10_arrive 19 = .ok (.invokevirtual 37, 3) := by decide +kernel
theorem dX10_arrive_22 : decode cX10_arrive 22 = .ok (.iinc 3 1, 3) := by decide +kernel
theorem dX10_arrive_25 : decode cX10_arrive 25 = .ok (.goto (-23), 3) := by decide +kernel
theorem dX10_arrive_28 : decode cX10_arrive 28 = .ok (.return_, 1) := by decide +kernel
def fX10_arrive_L2 (x0 : Nat) (x1 : Int32) (x2 : Int32) : Nat → Int32 → zM → Option zM
  | 0, _, _ => none
  | n + 1, x3, M => if (x1 + x2) ≤ x3 then (
    some M)
    else (
    if 8 ≤ x3 then (
    some M)
    else (
    if zSH x0 = .inl 10 then (
    (fX10_putWith x0 x3 6 M).bind fun (M19 : zM) =>
    fX10_arrive_L2 x0 x1 x2 n (x3 + 1) M19) else none))
def fX10_arrive (x0 : Nat) (x1 : Int32) (x2 : Int32) (M : zM) : Option zM := (fX10_arrive_L2 x0 x1 x2 4000 x1 M).bind fun (M_28 : zM) =>
  some M_28
set_option maxHeartbeats 4000000 in
theorem lX10_arrive_2 {E : zE} {Γ : zT} {d : Nat} {K1 : zM → Prop} (hC : Cx E Γ RX10 cX10_arrive 4 d) (hd : 1 ≤ d) (x0 : Nat) (x1 : Int32) (x2 : Int32) (hx : ∀ (M_28 : zM), K1 M_28 → G E Γ 4 28 [] [] M_28) :
    ∀ (n : Nat) (x3 : Int32) (M : zM), wpO (fX10_arrive_L2 x0 x1 x2 n x3 M) K1 → G E Γ 4 2 [(0, .ref x0), (1, .int x1), (2, .int x2), (3, .int x3)] [] M := by
  intro n
  induction n with
  | zero =>
    intro x3 M h
    exact (wpO_0 h).elim
  | succ n ih =>
    intro x3 M h
    rw [fX10_arrive_L2.eq_2] at h
    refine g_iload_n (i := 3) (x := x3) hC (dX10_arrive_2) rfl rfl ?_
    refine g_iload_n (i := 1) (x := x1) hC (dX10_arrive_3) rfl rfl ?_
    refine g_iload_n (i := 2) (x := x2) hC (dX10_arrive_4) rfl rfl ?_
    refine g_iadd hC (dX10_arrive_5) ?_
    refine g_icmp_ge (tgt := 28) hC (dX10_arrive_6) (by decide) (fun c6 => ?_) (fun c6 => ?_)
    · have h := wpO_t c6 h
      refine g_sub (lv' := []) [] rfl ?_
      exact hx _ (wpO_s h)
    · have h := wpO_f c6 h
      refine g_iload_n (i := 3) (x := x3) hC (dX10_arrive_9) rfl rfl ?_
      refine g_bipush (v := 8) hC (dX10_arrive_10) kb_8 ?_
      refine g_icmp_ge (tgt := 28) hC (dX10_arrive_12) (by decide) (fun c12 => ?_) (fun c12 => ?_)
      · have h := wpO_t c12 h
        refine g_sub (lv' := []) [] rfl ?_
        exact hx _ (wpO_s h)
      · have h := wpO_f c12 h
        refine g_aload_n (i := 0) (x := x0) hC (dX10_arrive_15) rfl rfl ?_
        refine g_iload_n (i := 3) (x := x3) hC (dX10_arrive_16) rfl rfl ?_
        refine g_bipush (v := 6) hC (dX10_arrive_17) kb_6 ?_
        obtain ⟨q1, h⟩ := wpO_g h
        have h := wpO_b h
        refine g_callVv ([.int x3, .int 6]) hC wvX10_37 (dX10_arrive_19) q1 rfl (by omega) (Nat.le_of_ble_eq_true rfl) (cX10_putWith_ok (by omega) x0 x3 6 M h) (fun M19 h => ?_)
        refine g_iinc (x := x3) (v := (x3 + 1)) (lv2 := [(3, .int (x3 + 1)), (0, .ref x0), (1, .int x1), (2, .int x2)]) hC (dX10_arrive_22) rfl rfl (by decide) rfl ?_
        refine g_goto (tgt := 2) hC (dX10_arrive_25) (by decide) ?_
        refine g_sub (lv' := [(0, .ref x0), (1, .int x1), (2, .int x2), (3, .int (x3 + 1))]) [1, 2, 3, 0] rfl ?_
        exact ih _ _ h
set_option maxHeartbeats 4000000 in
theorem cX10_arrive_ok {E : zE} {d : Nat} (hd : 1 ≤ d) (x0 : Nat) (x1 : Int32) (x2 : Int32) (M : zM) {K : zM → Prop} (h : wpO (fX10_arrive x0 x1 x2 M) K) : CMv E d yX10_arrive cX10_arrive 4 (none) [.ref x0, .int x1, .int x2] M K := by
  refine CMv.of (by decide) (Nat.le_of_ble_eq_true rfl) (fun Γ hC hr => ?_)
  have hC : Cx E Γ RX10 cX10_arrive 4 d := hC
  show G E Γ 4 0 [(0, .ref x0), (1, .int x1), (2, .int x2)] [] M
  unfold fX10_arrive at h
  refine g_iload_n (i := 1) (x := x1) hC (dX10_arrive_0) rfl rfl ?_
  refine g_istore_n (i := 3) (lv2 := [(3, .int x1), (0, .ref x0), (1, .int x1), (2, .int x2)]) hC (dX10_arrive_1) rfl (by decide) rfl ?_
  refine g_sub (lv' := [(0, .ref x0), (1, .int x1), (2, .int x2), (3, .int x1)]) [1, 2, 3, 0] rfl ?_
  refine wpO_bJ h (fun KL2 hKL2 h => ?_)
  refine lX10_arrive_2 (K1 := KL2) hC (by omega) x0 x1 x2 (fun M_28 h => ?_) _ _ _ h
  have h := hKL2 _ h
  refine g_vreturn hC hr (dX10_arrive_28) ?_
  exact wpO_s h
/-! LostByState$Whereabouts.isIn(I)Z -/
theorem dX10_isIn_0 : decode cX10_isIn 0 = .ok (.aload_n 0, 1) := by decide +kernel
theorem dX10_isIn_1 : decode cX10_isIn 1 = .ok (.getfield 18, 3) := by decide +kernel
theorem dX10_isIn_4 : decode cX10_isIn 4 = .ok (.iload_n 1, 1) := by decide +kernel
theorem dX10_isIn_5 : decode cX10_isIn 5 = .ok (.iaload, 1) := by decide +kernel
theorem dX10_isIn_6 : decode cX10_isIn 6 = .ok (.ifCond .lt 7, 3) := by decide +kernel
theorem dX10_isIn_9 : decode cX10_isIn 9 = .ok (.iconst 1, 1) := by decide +kernel
theorem dX10_isIn_10 : decode cX10_isIn 10 = .ok (.goto 4, 3) := by decide +kernel
theorem dX10_isIn_13 : decode cX10_isIn 13 = .ok (.iconst 0, 1) := by decide +kernel
theorem dX10_isIn_14 : decode cX10_isIn 14 = .ok (.ireturn, 1) := by decide +kernel
def fX10_isIn (x0 : Nat) (x1 : Int32) (M : zM) : Option Int32 := if zSH x0 = .inl 10 then (
  if zin x1 8 then (
  if (M.1 (x0 + 3) x1.toNatClampNeg) < 0 then (
  some 0)
  else (
  some 1)) else none) else none
set_option maxHeartbeats 4000000 in
theorem cX10_isIn_ok {E : zE} {d : Nat} (hd : 0 ≤ d) (x0 : Nat) (x1 : Int32) (M : zM) {K : Int32 → Prop} (h : wpO (fX10_isIn x0 x1 M) K) : CMi E d yX10_isIn cX10_isIn 2 (some .boolean) [.ref x0, .int x1] M (fun r N => M = N ∧ K r) := by
  refine CMi.of (by decide) (Nat.le_of_ble_eq_true rfl) (fun Γ hC hr => ?_)
  have hC : Cx E Γ RX10 cX10_isIn 2 d := hC
  show G E Γ 2 0 [(0, .ref x0), (1, .int x1)] [] M
  unfold fX10_isIn at h
  refine g_aload_n (i := 0) (x := x0) hC (dX10_isIn_0) rfl rfl ?_
  obtain ⟨q1, h⟩ := wpO_g h
  refine g_getR (r := x0 + 3) hC flX10_18 (dX10_isIn_1) q1 rfl (zRFw3 q1) ?_
  refine g_iload_n (i := 1) (x := x1) hC (dX10_isIn_4) rfl rfl ?_
  obtain ⟨q2, h⟩ := wpO_g h
  refine g_iaload (n := 8) hC (dX10_isIn_5) (zSHw3 q1) q2 ?_
  refine g_if_lt (tgt := 13) hC (dX10_isIn_6) (by decide) (fun c6 => ?_) (fun c6 => ?_)
  · have h := wpO_t c6 h
    refine g_iconst (v := 0) hC (dX10_isIn_13) kc_0 ?_
    refine g_zreturn hC hr (dX10_isIn_14) (Or.inl rfl) ?_
    exact ⟨rfl, wpO_s h⟩
  · have h := wpO_f c6 h
    refine g_iconst (v := 1) hC (dX10_isIn_9) kc_1 ?_
    refine g_goto (tgt := 14) hC (dX10_isIn_10) (by decide) ?_
    refine g_zreturn hC hr (dX10_isIn_14) (Or.inr rfl) ?_
    exact ⟨rfl, wpO_s h⟩
/-! LostByState$Whereabouts.weekday()I -/
theorem dX10_weekday_0 : decode cX10_weekday 0 = .ok (.aload_n 0, 1) := by decide +kernel
theorem dX10_weekday_1 : decode cX10_weekday 1 = .ok (.getfield 24, 3) := by decide +kernel
theorem dX10_weekday_4 : decode cX10_weekday 4 = .ok (.bipush 7, 2) := by decide +kernel
theorem dX10_weekday_6 : decode cX10_weekday 6 = .ok (.irem, 1) := by decide +kernel
theorem dX10_weekday_7 : decode cX10_weekday 7 = .ok (.ireturn, 1) := by decide +kernel
def fX10_weekday (x0 : Nat) (M : zM) : Option Int32 := if zSH x0 = .inl 10 then (
  some (zrem (M.1 x0 4) 7)) else none
set_option maxHeartbeats 4000000 in
theorem cX10_weekday_ok {E : zE} {d : Nat} (hd : 0 ≤ d) (x0 : Nat) (M : zM) {K : Int32 → Prop} (h : wpO (fX10_weekday x0 M) K) : CMi E d yX10_weekday cX10_weekday 1 (some .int) [.ref x0] M (fun r N => M = N ∧ K r) := by
  refine CMi.of (by decide) (Nat.le_of_ble_eq_true rfl) (fun Γ hC hr => ?_)
  have hC : Cx E Γ RX10 cX10_weekday 1 d := hC
  show G E Γ 1 0 [(0, .ref x0)] [] M
  unfold fX10_weekday at h
  refine g_aload_n (i := 0) (x := x0) hC (dX10_weekday_0) rfl rfl ?_
  obtain ⟨q1, h⟩ := wpO_g h
  refine g_getI hC flX10_24 (dX10_weekday_1) q1 rfl ?_
  refine g_bipush (v := 7) hC (dX10_weekday_4) kb_7 ?_
  refine g_irem hC (dX10_weekday_6) (by decide) ?_
  refine g_ireturn hC hr (dX10_weekday_7) ?_
  exact ⟨rfl, wpO_s h⟩
/-! LostByState$Whereabouts.heldBy(I)I -/
theorem dX10_heldBy_0 : decode cX10_heldBy 0 = .ok (.iconst 0, 1) := by decide +kernel
theorem dX10_heldBy_1 : decode cX10_heldBy 1 = .ok (.istore_n 2, 1) := by decide +kernel
theorem dX10_heldBy_2 : decode cX10_heldBy 2 = .ok (.iconst 0, 1) := by decide +kernel
theorem dX10_heldBy_3 : decode cX10_heldBy 3 = .ok (.istore_n 3, 1) := by decide +kernel
theorem dX10_heldBy_4 : decode cX10_heldBy 4 = .ok (.iload_n 3, 1) := by decide +kernel
theorem dX10_heldBy_5 : decode cX10_heldBy 5 = .ok (.bipush 8, 2) := by decide +kernel
theorem dX10_heldBy_7 : decode cX10_heldBy 7 = .ok (.if_icmp .ge 25, 3) := by decide +kernel
theorem dX10_heldBy_10 : decode cX10_heldBy 10 = .ok (.aload_n 0, 1) := by decide +kernel
theorem dX10_heldBy_11 : decode cX10_heldBy 11 = .ok (.getfield 9, 3) := by decide +kernel
theorem dX10_heldBy_14 : decode cX10_heldBy 14 = .ok (.iload_n 3, 1) := by decide +kernel
theorem dX10_heldBy_15 : decode cX10_heldBy 15 = .ok (.iaload, 1) := by decide +kernel
theorem dX10_heldBy_16 : decode cX10_heldBy 16 = .ok (.iload_n 1, 1) := by decide +kernel
theorem dX10_heldBy_17 : decode cX10_heldBy 17 = .ok (.if_icmp .ne 9, 3) := by decide +kernel
theorem dX10_heldBy_20 : decode cX10_heldBy 20 = .ok (.iload_n 2, 1) := by decide +kernel
theorem dX10_heldBy_21 : decode cX10_heldBy 21 = .ok (.iconst 1, 1) := by decide +kernel
theorem dX10_heldBy_22 : decode cX10_heldBy 22 = .ok (.iload_n 3, 1) := by decide +kernel
theorem dX10_heldBy_23 : decode cX10_heldBy 23 = .ok (.ishl, 1) := by decide +kernel
theorem dX10_heldBy_24 : decode cX10_heldBy 24 = .ok (.ior, 1) := by decide +kernel
theorem dX10_heldBy_25 : decode cX10_heldBy 25 = .ok (.istore_n 2, 1) := by decide +kernel
theorem dX10_heldBy_26 : decode cX10_heldBy 26 = .ok (.iinc 3 1, 3) := by decide +kernel
theorem dX10_heldBy_29 : decode cX10_heldBy 29 = .ok (.goto (-25), 3) := by decide +kernel
theorem dX10_heldBy_32 : decode cX10_heldBy 32 = .ok (.iload_n 2, 1) := by decide +kernel
theorem dX10_heldBy_33 : decode cX10_heldBy 33 = .ok (.ireturn, 1) := by decide +kernel
def fX10_heldBy_L4 (x0 : Nat) (x1 : Int32) (M : zM) : Nat → Int32 → Int32 → Option Int32
  | 0, _, _ => none
  | n + 1, x2, x3 => if 8 ≤ x3 then (
    some x2)
    else (
    if zSH x0 = .inl 10 then (
    if zin x3 8 then (
    zlet (if (M.1 (x0 + 1) x3.toNatClampNeg) = x1 then (
    zlet (x2 ||| (zshl 1 x3)) fun (x2_25 : Int32) =>
    x2_25)
    else (
    x2)) fun (x2_26 : Int32) =>
    fX10_heldBy_L4 x0 x1 M n x2_26 (x3 + 1)) else none) else none)
def fX10_heldBy (x0 : Nat) (x1 : Int32) (M : zM) : Option Int32 := (fX10_heldBy_L4 x0 x1 M 4000 0 0).bind fun (x2_32 : Int32) =>
  some x2_32
set_option maxHeartbeats 4000000 in
theorem lX10_heldBy_4 {E : zE} {Γ : zT} {d : Nat} {K1 : Int32 → Prop} (hC : Cx E Γ RX10 cX10_heldBy 4 d) (hd : 0 ≤ d) (x0 : Nat) (x1 : Int32) (M : zM) (hx : ∀ (x2_32 : Int32), K1 x2_32 → G E Γ 4 32 [(2, .int x2_32)] [] M) :
    ∀ (n : Nat) (x2 : Int32) (x3 : Int32), wpO (fX10_heldBy_L4 x0 x1 M n x2 x3) K1 → G E Γ 4 4 [(0, .ref x0), (1, .int x1), (2, .int x2), (3, .int x3)] [] M := by
  intro n
  induction n with
  | zero =>
    intro x2 x3 h
    exact (wpO_0 h).elim
  | succ n ih =>
    intro x2 x3 h
    rw [fX10_heldBy_L4.eq_2] at h
    refine g_iload_n (i := 3) (x := x3) hC (dX10_heldBy_4) rfl rfl ?_
    refine g_bipush (v := 8) hC (dX10_heldBy_5) kb_8 ?_
    refine g_icmp_ge (tgt := 32) hC (dX10_heldBy_7) (by decide) (fun c7 => ?_) (fun c7 => ?_)
    · have h := wpO_t c7 h
      refine g_sub (lv' := [(2, .int x2)]) [2] rfl ?_
      exact hx _ (wpO_s h)
    · have h := wpO_f c7 h
      refine g_aload_n (i := 0) (x := x0) hC (dX10_heldBy_10) rfl rfl ?_
      obtain ⟨q1, h⟩ := wpO_g h
      refine g_getR (r := x0 + 1) hC flX10_9 (dX10_heldBy_11) q1 rfl (zRFw1 q1) ?_
      refine g_iload_n (i := 3) (x := x3) hC (dX10_heldBy_14) rfl rfl ?_
      obtain ⟨q2, h⟩ := wpO_g h
      refine g_iaload (n := 8) hC (dX10_heldBy_15) (zSHw1 q1) q2 ?_
      refine g_iload_n (i := 1) (x := x1) hC (dX10_heldBy_16) rfl rfl ?_
      obtain ⟨x2_26, e_x2_26, h⟩ := wpO_l h
      have hJ3 : G E Γ 4 26 [(0, .ref x0), (1, .int x1), (2, .int x2_26), (3, .int x3)] [] M := by
        refine g_iinc (x := x3) (v := (x3 + 1)) (lv2 := [(3, .int (x3 + 1)), (0, .ref x0), (1, .int x1), (2, .int x2_26)]) hC (dX10_heldBy_26) rfl rfl (by decide) rfl ?_
        refine g_goto (tgt := 4) hC (dX10_heldBy_29) (by decide) ?_
        refine g_sub (lv' := [(0, .ref x0), (1, .int x1), (2, .int x2_26), (3, .int (x3 + 1))]) [1, 2, 3, 0] rfl ?_
        exact ih _ _ h
      refine g_icmp_ne (tgt := 26) hC (dX10_heldBy_17) (by decide) (fun c17 => ?_) (fun c17 => ?_)
      · rw [if_neg c17] at e_x2_26
        subst e_x2_26
        exact hJ3
      · rw [if_pos c17] at e_x2_26
        refine g_iload_n (i := 2) (x := x2) hC (dX10_heldBy_20) rfl rfl ?_
        refine g_iconst (v := 1) hC (dX10_heldBy_21) kc_1 ?_
        refine g_iload_n (i := 3) (x := x3) hC (dX10_heldBy_22) rfl rfl ?_
        refine g_ishl hC (dX10_heldBy_23) ?_
        refine g_ior hC (dX10_heldBy_24) ?_
        refine g_nmi (fun x2_25 e_x2_25 => ?_)
        have e_x2_26 := zle e_x2_25 e_x2_26
        refine g_istore_n (i := 2) (lv2 := [(2, .int x2_25), (0, .ref x0), (1, .int x1), (3, .int x3)]) hC (dX10_heldBy_25) rfl (by decide) rfl ?_
        refine g_sub (lv' := [(0, .ref x0), (1, .int x1), (2, .int x2_25), (3, .int x3)]) [1, 2, 0, 3] rfl ?_
        subst e_x2_26
        exact hJ3
set_option maxHeartbeats 4000000 in
theorem cX10_heldBy_ok {E : zE} {d : Nat} (hd : 0 ≤ d) (x0 : Nat) (x1 : Int32) (M : zM) {K : Int32 → Prop} (h : wpO (fX10_heldBy x0 x1 M) K) : CMi E d yX10_heldBy cX10_heldBy 4 (some .int) [.ref x0, .int x1] M (fun r N => M = N ∧ K r) := by
  refine CMi.of (by decide) (Nat.le_of_ble_eq_true rfl) (fun Γ hC hr => ?_)
  have hC : Cx E Γ RX10 cX10_heldBy 4 d := hC
  show G E Γ 4 0 [(0, .ref x0), (1, .int x1)] [] M
  unfold fX10_heldBy at h
  refine g_iconst (v := 0) hC (dX10_heldBy_0) kc_0 ?_
  refine g_istore_n (i := 2) (lv2 := [(2, .int 0), (0, .ref x0), (1, .int x1)]) hC (dX10_heldBy_1) rfl (by decide) rfl ?_
  refine g_iconst (v := 0) hC (dX10_heldBy_2) kc_0 ?_
  refine g_istore_n (i := 3) (lv2 := [(3, .int 0), (2, .int 0), (0, .ref x0), (1, .int x1)]) hC (dX10_heldBy_3) rfl (by decide) rfl ?_
  refine g_sub (lv' := [(0, .ref x0), (1, .int x1), (2, .int 0), (3, .int 0)]) [2, 3, 1, 0] rfl ?_
  refine wpO_bJ h (fun KL4 hKL4 h => ?_)
  refine lX10_heldBy_4 (K1 := KL4) hC (by omega) x0 x1 M (fun x2_32 h => ?_) _ _ _ h
  have h := hKL4 _ h
  refine g_iload_n (i := 2) (x := x2_32) hC (dX10_heldBy_32) rfl rfl ?_
  refine g_ireturn hC hr (dX10_heldBy_33) ?_
  exact ⟨rfl, wpO_s h⟩
/-! LostByState$Whereabouts.lost()I -/
theorem dX10_lost_0 : decode cX10_lost 0 = .ok (.iconst 0, 1) := by decide +kernel
theorem dX10_lost_1 : decode cX10_lost 1 = .ok (.istore_n 1, 1) := by decide +kernel
theorem dX10_lost_2 : decode cX10_lost 2 = .ok (.iconst 0, 1) := by decide +kernel
theorem dX10_lost_3 : decode cX10_lost 3 = .ok (.istore_n 2, 1) := by decide +kernel
theorem dX10_lost_4 : decode cX10_lost 4 = .ok (.iload_n 2, 1) := by decide +kernel
theorem dX10_lost_5 : decode cX10_lost 5 = .ok (.bipush 8, 2) := by decide +kernel
theorem dX10_lost_7 : decode cX10_lost 7 = .ok (.if_icmp .ge 24, 3) := by decide +kernel
theorem dX10_lost_10 : decode cX10_lost 10 = .ok (.aload_n 0, 1) := by decide +kernel
theorem dX10_lost_11 : decode cX10_lost 11 = .ok (.getfield 15, 3) := by decide +kernel
theorem dX10_lost_14 : decode cX10_lost 14 = .ok (.iload_n 2, 1) := by decide +kernel
theorem dX10_lost_15 : decode cX10_lost 15 = .ok (.iaload, 1) := by decide +kernel
theorem dX10_lost_16 : decode cX10_lost 16 = .ok (.ifCond .lt 9, 3) := by decide +kernel
theorem dX10_lost_19 : decode cX10_lost 19 = .ok (.iload_n 1, 1) := by decide +kernel
theorem dX10_lost_20 : decode cX10_lost 20 = .ok (.iconst 1, 1) := by decide +kernel
theorem dX10_lost_21 : decode cX10_lost 21 = .ok (.iload_n 2, 1) := by decide +kernel
theorem dX10_lost_22 : decode cX10_lost 22 = .ok (.ishl, 1) := by decide +kernel
theorem dX10_lost_23 : decode cX10_lost 23 = .ok (.ior, 1) := by decide +kernel
theorem dX10_lost_24 : decode cX10_lost 24 = .ok (.istore_n 1, 1) := by decide +kernel
theorem dX10_lost_25 : decode cX10_lost 25 = .ok (.iinc 2 1, 3) := by decide +kernel
theorem dX10_lost_28 : decode cX10_lost 28 = .ok (.goto (-24), 3) := by decide +kernel
theorem dX10_lost_31 : decode cX10_lost 31 = .ok (.iload_n 1, 1) := by decide +kernel
theorem dX10_lost_32 : decode cX10_lost 32 = .ok (.ireturn, 1) := by decide +kernel
def fX10_lost_L4 (x0 : Nat) (M : zM) : Nat → Int32 → Int32 → Option Int32
  | 0, _, _ => none
  | n + 1, x1, x2 => if 8 ≤ x2 then (
    some x1)
    else (
    if zSH x0 = .inl 10 then (
    if zin x2 8 then (
    zlet (if (M.1 (x0 + 2) x2.toNatClampNeg) < 0 then (
    x1)
    else (
    zlet (x1 ||| (zshl 1 x2)) fun (x1_24 : Int32) =>
    x1_24)) fun (x1_25 : Int32) =>
    fX10_lost_L4 x0 M n x1_25 (x2 + 1)) else none) else none)
def fX10_lost (x0 : Nat) (M : zM) : Option Int32 := (fX10_lost_L4 x0 M 4000 0 0).bind fun (x1_31 : Int32) =>
  some x1_31
set_option maxHeartbeats 4000000 in
theorem lX10_lost_4 {E : zE} {Γ : zT} {d : Nat} {K1 : Int32 → Prop} (hC : Cx E Γ RX10 cX10_lost 3 d) (hd : 0 ≤ d) (x0 : Nat) (M : zM) (hx : ∀ (x1_31 : Int32), K1 x1_31 → G E Γ 3 31 [(1, .int x1_31)] [] M) :
    ∀ (n : Nat) (x1 : Int32) (x2 : Int32), wpO (fX10_lost_L4 x0 M n x1 x2) K1 → G E Γ 3 4 [(0, .ref x0), (1, .int x1), (2, .int x2)] [] M := by
  intro n
  induction n with
  | zero =>
    intro x1 x2 h
    exact (wpO_0 h).elim
  | succ n ih =>
    intro x1 x2 h
    rw [fX10_lost_L4.eq_2] at h
    refine g_iload_n (i := 2) (x := x2) hC (dX10_lost_4) rfl rfl ?_
    refine g_bipush (v := 8) hC (dX10_lost_5) kb_8 ?_
    refine g_icmp_ge (tgt := 31) hC (dX10_lost_7) (by decide) (fun c7 => ?_) (fun c7 => ?_)
    · have h := wpO_t c7 h
      refine g_sub (lv' := [(1, .int x1)]) [1] rfl ?_
      exact hx _ (wpO_s h)
    · have h := wpO_f c7 h
      refine g_aload_n (i := 0) (x := x0) hC (dX10_lost_10) rfl rfl ?_
      obtain ⟨q1, h⟩ := wpO_g h
      refine g_getR (r := x0 + 2) hC flX10_15 (dX10_lost_11) q1 rfl (zRFw2 q1) ?_
      refine g_iload_n (i := 2) (x := x2) hC (dX10_lost_14) rfl rfl ?_
      obtain ⟨q2, h⟩ := wpO_g h
      refine g_iaload (n := 8) hC (dX10_lost_15) (zSHw2 q1) q2 ?_
      obtain ⟨x1_25, e_x1_25, h⟩ := wpO_l h
      have hJ3 : G E Γ 3 25 [(0, .ref x0), (1, .int x1_25), (2, .int x2)] [] M := by
        refine g_iinc (x := x2) (v := (x2 + 1)) (lv2 := [(2, .int (x2 + 1)), (0, .ref x0), (1, .int x1_25)]) hC (dX10_lost_25) rfl rfl (by decide) rfl ?_
        refine g_goto (tgt := 4) hC (dX10_lost_28) (by decide) ?_
        refine g_sub (lv' := [(0, .ref x0), (1, .int x1_25), (2, .int (x2 + 1))]) [1, 2, 0] rfl ?_
        exact ih _ _ h
      refine g_if_lt (tgt := 25) hC (dX10_lost_16) (by decide) (fun c16 => ?_) (fun c16 => ?_)
      · rw [if_pos c16] at e_x1_25
        subst e_x1_25
        exact hJ3
      · rw [if_neg c16] at e_x1_25
        refine g_iload_n (i := 1) (x := x1) hC (dX10_lost_19) rfl rfl ?_
        refine g_iconst (v := 1) hC (dX10_lost_20) kc_1 ?_
        refine g_iload_n (i := 2) (x := x2) hC (dX10_lost_21) rfl rfl ?_
        refine g_ishl hC (dX10_lost_22) ?_
        refine g_ior hC (dX10_lost_23) ?_
        refine g_nmi (fun x1_24 e_x1_24 => ?_)
        have e_x1_25 := zle e_x1_24 e_x1_25
        refine g_istore_n (i := 1) (lv2 := [(1, .int x1_24), (0, .ref x0), (2, .int x2)]) hC (dX10_lost_24) rfl (by decide) rfl ?_
        refine g_sub (lv' := [(0, .ref x0), (1, .int x1_24), (2, .int x2)]) [1, 0, 2] rfl ?_
        subst e_x1_25
        exact hJ3
set_option maxHeartbeats 4000000 in
theorem cX10_lost_ok {E : zE} {d : Nat} (hd : 0 ≤ d) (x0 : Nat) (M : zM) {K : Int32 → Prop} (h : wpO (fX10_lost x0 M) K) : CMi E d yX10_lost cX10_lost 3 (some .int) [.ref x0] M (fun r N => M = N ∧ K r) := by
  refine CMi.of (by decide) (Nat.le_of_ble_eq_true rfl) (fun Γ hC hr => ?_)
  have hC : Cx E Γ RX10 cX10_lost 3 d := hC
  show G E Γ 3 0 [(0, .ref x0)] [] M
  unfold fX10_lost at h
  refine g_iconst (v := 0) hC (dX10_lost_0) kc_0 ?_
  refine g_istore_n (i := 1) (lv2 := [(1, .int 0), (0, .ref x0)]) hC (dX10_lost_1) rfl (by decide) rfl ?_
  refine g_iconst (v := 0) hC (dX10_lost_2) kc_0 ?_
  refine g_istore_n (i := 2) (lv2 := [(2, .int 0), (1, .int 0), (0, .ref x0)]) hC (dX10_lost_3) rfl (by decide) rfl ?_
  refine g_sub (lv' := [(0, .ref x0), (1, .int 0), (2, .int 0)]) [2, 1, 0] rfl ?_
  refine wpO_bJ h (fun KL4 hKL4 h => ?_)
  refine lX10_lost_4 (K1 := KL4) hC (by omega) x0 M (fun x1_31 h => ?_) _ _ _ h
  have h := hKL4 _ h
  refine g_iload_n (i := 1) (x := x1_31) hC (dX10_lost_31) rfl rfl ?_
  refine g_ireturn hC hr (dX10_lost_32) ?_
  exact ⟨rfl, wpO_s h⟩
/-! LostByState$Whereabouts.inside()I -/
theorem dX10_inside_0 : decode cX10_inside 0 = .ok (.iconst 0, 1) := by decide +kernel
theorem dX10_inside_1 : decode cX10_inside 1 = .ok (.istore_n 1, 1) := by decide +kernel
theorem dX10_inside_2 : decode cX10_inside 2 = .ok (.iconst 0, 1) := by decide +kernel
theorem dX10_inside_3 : decode cX10_inside 3 = .ok (.istore_n 2, 1) := by decide +kernel
theorem dX10_inside_4 : decode cX10_inside 4 = .ok (.iload_n 2, 1) := by decide +kernel
theorem dX10_inside_5 : decode cX10_inside 5 = .ok (.bipush 8, 2) := by decide +kernel
theorem dX10_inside_7 : decode cX10_inside 7 = .ok (.if_icmp .ge 23, 3) := by decide +kernel
theorem dX10_inside_10 : decode cX10_inside 10 = .ok (.aload_n 0, 1) := by decide +kernel
theorem dX10_inside_11 : decode cX10_inside 11 = .ok (.iload_n 2, 1) := by decide +kernel
theorem dX10_inside_12 : decode cX10_inside 12 = .ok (.invokevirtual 41, 3) := by decide +kernel
theorem dX10_inside_15 : decode cX10_inside 15 = .ok (.ifCond .eq 9, 3) := by decide +kernel
theorem dX10_inside_18 : decode cX10_inside 18 = .ok (.iload_n 1, 1) := by decide +kernel
theorem dX10_inside_19 : decode cX10_inside 19 = .ok (.iconst 1, 1) := by decide +kernel
theorem dX10_inside_20 : decode cX10_inside 20 = .ok (.iload_n 2, 1) := by decide +kernel
theorem dX10_inside_21 : decode cX10_inside 21 = .ok (.ishl, 1) := by decide +kernel
theorem dX10_inside_22 : decode cX10_inside 22 = .ok (.ior, 1) := by decide +kernel
theorem dX10_inside_23 : decode cX10_inside 23 = .ok (.istore_n 1, 1) := by decide +kernel
theorem dX10_inside_24 : decode cX10_inside 24 = .ok (.iinc 2 1, 3) := by decide +kernel
theorem dX10_inside_27 : decode cX10_inside 27 = .ok (.goto (-23), 3) := by decide +kernel
theorem dX10_inside_30 : decode cX10_inside 30 = .ok (.iload_n 1, 1) := by decide +kernel
theorem dX10_inside_31 : decode cX10_inside 31 = .ok (.ireturn, 1) := by decide +kernel
def fX10_inside_L4 (x0 : Nat) (M : zM) : Nat → Int32 → Int32 → Option Int32
  | 0, _, _ => none
  | n + 1, x1, x2 => if 8 ≤ x2 then (
    some x1)
    else (
    if zSH x0 = .inl 10 then (
    (fX10_isIn x0 x2 M).bind fun (r2 : Int32) =>
    zlet (if r2 = 0 then (
    x1)
    else (
    zlet (x1 ||| (zshl 1 x2)) fun (x1_23 : Int32) =>
    x1_23)) fun (x1_24 : Int32) =>
    fX10_inside_L4 x0 M n x1_24 (x2 + 1)) else none)
def fX10_inside (x0 : Nat) (M : zM) : Option Int32 := (fX10_inside_L4 x0 M 4000 0 0).bind fun (x1_30 : Int32) =>
  some x1_30
set_option maxHeartbeats 4000000 in
theorem lX10_inside_4 {E : zE} {Γ : zT} {d : Nat} {K1 : Int32 → Prop} (hC : Cx E Γ RX10 cX10_inside 3 d) (hd : 1 ≤ d) (x0 : Nat) (M : zM) (hx : ∀ (x1_30 : Int32), K1 x1_30 → G E Γ 3 30 [(1, .int x1_30)] [] M) :
    ∀ (n : Nat) (x1 : Int32) (x2 : Int32), wpO (fX10_inside_L4 x0 M n x1 x2) K1 → G E Γ 3 4 [(0, .ref x0), (1, .int x1), (2, .int x2)] [] M := by
  intro n
  induction n with
  | zero =>
    intro x1 x2 h
    exact (wpO_0 h).elim
  | succ n ih =>
    intro x1 x2 h
    rw [fX10_inside_L4.eq_2] at h
    refine g_iload_n (i := 2) (x := x2) hC (dX10_inside_4) rfl rfl ?_
    refine g_bipush (v := 8) hC (dX10_inside_5) kb_8 ?_
    refine g_icmp_ge (tgt := 30) hC (dX10_inside_7) (by decide) (fun c7 => ?_) (fun c7 => ?_)
    · have h := wpO_t c7 h
      refine g_sub (lv' := [(1, .int x1)]) [1] rfl ?_
      exact hx _ (wpO_s h)
    · have h := wpO_f c7 h
      refine g_aload_n (i := 0) (x := x0) hC (dX10_inside_10) rfl rfl ?_
      refine g_iload_n (i := 2) (x := x2) hC (dX10_inside_11) rfl rfl ?_
      obtain ⟨q1, h⟩ := wpO_g h
      have h := wpO_b h
      refine g_callVi ([.int x2]) hC wvX10_41 (dX10_inside_12) q1 rfl (by omega) (Nat.le_of_ble_eq_true rfl) (cX10_isIn_ok (by omega) x0 x2 M h) (fun r2 N q => ?_)
      obtain ⟨rfl, h⟩ := q
      obtain ⟨x1_24, e_x1_24, h⟩ := wpO_l h
      have hJ3 : G E Γ 3 24 [(0, .ref x0), (1, .int x1_24), (2, .int x2)] [] M := by
        refine g_iinc (x := x2) (v := (x2 + 1)) (lv2 := [(2, .int (x2 + 1)), (0, .ref x0), (1, .int x1_24)]) hC (dX10_inside_24) rfl rfl (by decide) rfl ?_
        refine g_goto (tgt := 4) hC (dX10_inside_27) (by decide) ?_
        refine g_sub (lv' := [(0, .ref x0), (1, .int x1_24), (2, .int (x2 + 1))]) [1, 2, 0] rfl ?_
        exact ih _ _ h
      refine g_if_eq (tgt := 24) hC (dX10_inside_15) (by decide) (fun c15 => ?_) (fun c15 => ?_)
      · rw [if_pos c15] at e_x1_24
        subst e_x1_24
        exact hJ3
      · rw [if_neg c15] at e_x1_24
        refine g_iload_n (i := 1) (x := x1) hC (dX10_inside_18) rfl rfl ?_
        refine g_iconst (v := 1) hC (dX10_inside_19) kc_1 ?_
        refine g_iload_n (i := 2) (x := x2) hC (dX10_inside_20) rfl rfl ?_
        refine g_ishl hC (dX10_inside_21) ?_
        refine g_ior hC (dX10_inside_22) ?_
        refine g_nmi (fun x1_23 e_x1_23 => ?_)
        have e_x1_24 := zle e_x1_23 e_x1_24
        refine g_istore_n (i := 1) (lv2 := [(1, .int x1_23), (0, .ref x0), (2, .int x2)]) hC (dX10_inside_23) rfl (by decide) rfl ?_
        refine g_sub (lv' := [(0, .ref x0), (1, .int x1_23), (2, .int x2)]) [1, 0, 2] rfl ?_
        subst e_x1_24
        exact hJ3
set_option maxHeartbeats 4000000 in
theorem cX10_inside_ok {E : zE} {d : Nat} (hd : 1 ≤ d) (x0 : Nat) (M : zM) {K : Int32 → Prop} (h : wpO (fX10_inside x0 M) K) : CMi E d yX10_inside cX10_inside 3 (some .int) [.ref x0] M (fun r N => M = N ∧ K r) := by
  refine CMi.of (by decide) (Nat.le_of_ble_eq_true rfl) (fun Γ hC hr => ?_)
  have hC : Cx E Γ RX10 cX10_inside 3 d := hC
  show G E Γ 3 0 [(0, .ref x0)] [] M
  unfold fX10_inside at h
  refine g_iconst (v := 0) hC (dX10_inside_0) kc_0 ?_
  refine g_istore_n (i := 1) (lv2 := [(1, .int 0), (0, .ref x0)]) hC (dX10_inside_1) rfl (by decide) rfl ?_
  refine g_iconst (v := 0) hC (dX10_inside_2) kc_0 ?_
  refine g_istore_n (i := 2) (lv2 := [(2, .int 0), (1, .int 0), (0, .ref x0)]) hC (dX10_inside_3) rfl (by decide) rfl ?_
  refine g_sub (lv' := [(0, .ref x0), (1, .int 0), (2, .int 0)]) [2, 1, 0] rfl ?_
  refine wpO_bJ h (fun KL4 hKL4 h => ?_)
  refine lX10_inside_4 (K1 := KL4) hC (by omega) x0 M (fun x1_30 h => ?_) _ _ _ h
  have h := hKL4 _ h
  refine g_iload_n (i := 1) (x := x1_30) hC (dX10_inside_30) rfl rfl ?_
  refine g_ireturn hC hr (dX10_inside_31) ?_
  exact ⟨rfl, wpO_s h⟩
/-! LostByState$Whereabouts.lose(II)I -/
theorem dX10_lose_0 : decode cX10_lose 0 = .ok (.aload_n 0, 1) := by decide +kernel
theorem dX10_lose_1 : decode cX10_lose 1 = .ok (.getfield 9, 3) := by decide +kernel
theorem dX10_lose_4 : decode cX10_lose 4 = .ok (.iload_n 1, 1) := by decide +kernel
theorem dX10_lose_5 : decode cX10_lose 5 = .ok (.iaload, 1) := by decide +kernel
theorem dX10_lose_6 : decode cX10_lose 6 = .ok (.ifCond .ge 6, 3) := by decide +kernel
theorem dX10_lose_9 : decode cX10_lose 9 = .ok (.bipush (-2), 2) := by decide +kernel
theorem dX10_lose_11 : decode cX10_lose 11 = .ok (.ireturn, 1) := by decide +kernel
theorem dX10_lose_12 : decode cX10_lose 12 = .ok (.aload_n 0, 1) := by decide +kernel
theorem dX10_lose_13 : decode cX10_lose 13 = .ok (.getfield 9, 3) := by decide +kernel
theorem dX10_lose_16 : decode cX10_lose 16 = .ok (.iload_n 1, 1) := by decide +kernel
theorem dX10_lose_17 : decode cX10_lose 17 = .ok (.iconst (-1), 1) := by decide +kernel
theorem dX10_lose_18 : decode cX10_lose 18 = .ok (.iastore, 1) := by decide +kernel
theorem dX10_lose_19 : decode cX10_lose 19 = .ok (.aload_n 0, 1) := by decide +kernel
theorem dX10_lose_20 : decode cX10_lose 20 = .ok (.getfield 15, 3) := by decide +kernel
theorem dX10_lose_23 : decode cX10_lose 23 = .ok (.iload_n 1, 1) := by decide +kernel
theorem dX10_lose_24 : decode cX10_lose 24 = .ok (.iload_n 2, 1) := by decide +kernel
theorem dX10_lose_25 : decode cX10_lose 25 = .ok (.iastore, 1) := by decide +kernel
theorem dX10_lose_26 : decode cX10_lose 26 = .ok (.aload_n 0, 1) := by decide +kernel
theorem dX10_lose_27 : decode cX10_lose 27 = .ok (.invokevirtual 45, 3) := by decide +kernel
theorem dX10_lose_30 : decode cX10_lose 30 = .ok (.invokestatic 49, 3) := by decide +kernel
theorem dX10_lose_33 : decode cX10_lose 33 = .ok (.ireturn, 1) := by decide +kernel
def fX10_lose (x0 : Nat) (x1 : Int32) (x2 : Int32) (M : zM) : Option (Int32 × zM) := if zSH x0 = .inl 10 then (
  if zin x1 8 then (
  if 0 ≤ (M.1 (x0 + 1) x1.toNatClampNeg) then (
  zlet (zSI M (x0 + 1) x1.toNatClampNeg (-1)) fun (M18 : zM) =>
  zlet (zSI M18 (x0 + 2) x1.toNatClampNeg x2) fun (M25 : zM) =>
  (fX10_lost x0 M25).bind fun (r3 : Int32) =>
  some (fJ6_bitCount_0f7a4 r3, M25))
  else (
  some ((-2), M))) else none) else none
set_option maxHeartbeats 4000000 in
theorem cX10_lose_ok {E : zE} {d : Nat} (hd : 1 ≤ d) (x0 : Nat) (x1 : Int32) (x2 : Int32) (M : zM) {K : (Int32 × zM) → Prop} (h : wpO (fX10_lose x0 x1 x2 M) K) : CMi E d yX10_lose cX10_lose 3 (some .int) [.ref x0, .int x1, .int x2] M (fun r N => K (r, N)) := by
  refine CMi.of (by decide) (Nat.le_of_ble_eq_true rfl) (fun Γ hC hr => ?_)
  have hC : Cx E Γ RX10 cX10_lose 3 d := hC
  show G E Γ 3 0 [(0, .ref x0), (1, .int x1), (2, .int x2)] [] M
  unfold fX10_lose at h
  refine g_aload_n (i := 0) (x := x0) hC (dX10_lose_0) rfl rfl ?_
  obtain ⟨q1, h⟩ := wpO_g h
  refine g_getR (r := x0 + 1) hC flX10_9 (dX10_lose_1) q1 rfl (zRFw1 q1) ?_
  refine g_iload_n (i := 1) (x := x1) hC (dX10_lose_4) rfl rfl ?_
  obtain ⟨q2, h⟩ := wpO_g h
  refine g_iaload (n := 8) hC (dX10_lose_5) (zSHw1 q1) q2 ?_
  refine g_if_ge (tgt := 12) hC (dX10_lose_6) (by decide) (fun c6 => ?_) (fun c6 => ?_)
  · have h := wpO_t c6 h
    refine g_aload_n (i := 0) (x := x0) hC (dX10_lose_12) rfl rfl ?_
    refine g_getR (r := x0 + 1) hC flX10_9 (dX10_lose_13) q1 rfl (zRFw1 q1) ?_
    refine g_iload_n (i := 1) (x := x1) hC (dX10_lose_16) rfl rfl ?_
    refine g_iconst (v := (-1)) hC (dX10_lose_17) kc_m1 ?_
    refine g_iastore (n := 8) hC (dX10_lose_18) (zSHw1 q1) q2 ?_
    refine g_nmM (fun M18 e_M18 => ?_)
    have h := wpO_n e_M18 h
    refine g_aload_n (i := 0) (x := x0) hC (dX10_lose_19) rfl rfl ?_
    refine g_getR (r := x0 + 2) hC flX10_15 (dX10_lose_20) q1 rfl (zRFw2 q1) ?_
    refine g_iload_n (i := 1) (x := x1) hC (dX10_lose_23) rfl rfl ?_
    refine g_iload_n (i := 2) (x := x2) hC (dX10_lose_24) rfl rfl ?_
    refine g_iastore (n := 8) hC (dX10_lose_25) (zSHw2 q1) q2 ?_
    refine g_nmM (fun M25 e_M25 => ?_)
    have h := wpO_n e_M25 h
    refine g_aload_n (i := 0) (x := x0) hC (dX10_lose_26) rfl rfl ?_
    have h := wpO_b h
    refine g_callVi ([]) hC wvX10_45 (dX10_lose_27) q1 rfl (by omega) (Nat.le_of_ble_eq_true rfl) (cX10_lost_ok (by omega) x0 M25 h) (fun r3 N q => ?_)
    obtain ⟨rfl, h⟩ := q
    refine g_callSi ([.int r3]) hC wsX10_49 (dX10_lose_30) rfl (by omega) (Nat.le_of_ble_eq_true rfl) (cJ6_bitCount_0f7a4_ok (by omega) r3 M25 (K := fun r => r = fJ6_bitCount_0f7a4 r3) rfl) (fun r N q => ?_)
    obtain ⟨rfl, rfl⟩ := q
    refine g_ireturn hC hr (dX10_lose_33) ?_
    exact wpO_s h
  · have h := wpO_f c6 h
    refine g_bipush (v := (-2)) hC (dX10_lose_9) kb_m2 ?_
    refine g_ireturn hC hr (dX10_lose_11) ?_
    exact wpO_s h
/-! LostByState$Whereabouts.bringIn(II)I -/
theorem dX10_bringIn_0 : decode cX10_bringIn 0 = .ok (.aload_n 0, 1) := by decide +kernel
theorem dX10_bringIn_1 : decode cX10_bringIn 1 = .ok (.getfield 15, 3) := by decide +kernel
theorem dX10_bringIn_4 : decode cX10_bringIn 4 = .ok (.iload_n 1, 1) := by decide +kernel
theorem dX10_bringIn_5 : decode cX10_bringIn 5 = .ok (.iaload, 1) := by decide +kernel
theorem dX10_bringIn_6 : decode cX10_bringIn 6 = .ok (.ifCond .ge 6, 3) := by decide +kernel
theorem dX10_bringIn_9 : decode cX10_bringIn 9 = .ok (.bipush (-2), 2) := by decide +kernel
theorem dX10_bringIn_11 : decode cX10_bringIn 11 = .ok (.ireturn, 1) := by decide +kernel
theorem dX10_bringIn_12 : decode cX10_bringIn 12 = .ok (.aload_n 0, 1) := by decide +kernel
theorem dX10_bringIn_13 : decode cX10_bringIn 13 = .ok (.getfield 15, 3) := by decide +kernel
theorem dX10_bringIn_16 : decode cX10_bringIn 16 = .ok (.iload_n 1, 1) := by decide +kernel
theorem dX10_bringIn_17 : decode cX10_bringIn 17 = .ok (.iconst (-1), 1) := by decide +kernel
theorem dX10_bringIn_18 : decode cX10_bringIn 18 = .ok (.iastore, 1) := by decide +kernel
theorem dX10_bringIn_19 : decode cX10_bringIn 19 = .ok (.aload_n 0, 1) := by decide +kernel
theorem dX10_bringIn_20 : decode cX10_bringIn 20 = .ok (.getfield 18, 3) := by decide +kernel
theorem dX10_bringIn_23 : decode cX10_bringIn 23 = .ok (.iload_n 1, 1) := by decide +kernel
theorem dX10_bringIn_24 : decode cX10_bringIn 24 = .ok (.iconst 0, 1) := by decide +kernel
theorem dX10_bringIn_25 : decode cX10_bringIn 25 = .ok (.iastore, 1) := by decide +kernel
theorem dX10_bringIn_26 : decode cX10_bringIn 26 = .ok (.aload_n 0, 1) := by decide +kernel
theorem dX10_bringIn_27 : decode cX10_bringIn 27 = .ok (.getfield 21, 3) := by decide +kernel
theorem dX10_bringIn_30 : decode cX10_bringIn 30 = .ok (.iload_n 1, 1) := by decide +kernel
theorem dX10_bringIn_31 : decode cX10_bringIn 31 = .ok (.iload_n 2, 1) := by decide +kernel
theorem dX10_bringIn_32 : decode cX10_bringIn 32 = .ok (.iastore, 1) := by decide +kernel
theorem dX10_bringIn_33 : decode cX10_bringIn 33 = .ok (.aload_n 0, 1) := by decide +kernel
theorem dX10_bringIn_34 : decode cX10_bringIn 34 = .ok (.invokevirtual 55, 3) := by decide +kernel
theorem dX10_bringIn_37 : decode cX10_bringIn 37 = .ok (.invokestatic 49, 3) := by decide +kernel
theorem dX10_bringIn_40 : decode cX10_bringIn 40 = .ok (.ireturn, 1) := by decide +kernel
def fX10_bringIn (x0 : Nat) (x1 : Int32) (x2 : Int32) (M : zM) : Option (Int32 × zM) := if zSH x0 = .inl 10 then (
  if zin x1 8 then (
  if 0 ≤ (M.1 (x0 + 2) x1.toNatClampNeg) then (
  zlet (zSI M (x0 + 2) x1.toNatClampNeg (-1)) fun (M18 : zM) =>
  zlet (zSI M18 (x0 + 3) x1.toNatClampNeg 0) fun (M25 : zM) =>
  zlet (zSI M25 (x0 + 4) x1.toNatClampNeg x2) fun (M32 : zM) =>
  (fX10_inside x0 M32).bind fun (r3 : Int32) =>
  some (fJ6_bitCount_0f7a4 r3, M32))
  else (
  some ((-2), M))) else none) else none
set_option maxHeartbeats 4000000 in
theorem cX10_bringIn_ok {E : zE} {d : Nat} (hd : 2 ≤ d) (x0 : Nat) (x1 : Int32) (x2 : Int32) (M : zM) {K : (Int32 × zM) → Prop} (h : wpO (fX10_bringIn x0 x1 x2 M) K) : CMi E d yX10_bringIn cX10_bringIn 3 (some .int) [.ref x0, .int x1, .int x2] M (fun r N => K (r, N)) := by
  refine CMi.of (by decide) (Nat.le_of_ble_eq_true rfl) (fun Γ hC hr => ?_)
  have hC : Cx E Γ RX10 cX10_bringIn 3 d := hC
  show G E Γ 3 0 [(0, .ref x0), (1, .int x1), (2, .int x2)] [] M
  unfold fX10_bringIn at h
  refine g_aload_n (i := 0) (x := x0) hC (dX10_bringIn_0) rfl rfl ?_
  obtain ⟨q1, h⟩ := wpO_g h
  refine g_getR (r := x0 + 2) hC flX10_15 (dX10_bringIn_1) q1 rfl (zRFw2 q1) ?_
  refine g_iload_n (i := 1) (x := x1) hC (dX10_bringIn_4) rfl rfl ?_
  obtain ⟨q2, h⟩ := wpO_g h
  refine g_iaload (n := 8) hC (dX10_bringIn_5) (zSHw2 q1) q2 ?_
  refine g_if_ge (tgt := 12) hC (dX10_bringIn_6) (by decide) (fun c6 => ?_) (fun c6 => ?_)
  · have h := wpO_t c6 h
    refine g_aload_n (i := 0) (x := x0) hC (dX10_bringIn_12) rfl rfl ?_
    refine g_getR (r := x0 + 2) hC flX10_15 (dX10_bringIn_13) q1 rfl (zRFw2 q1) ?_
    refine g_iload_n (i := 1) (x := x1) hC (dX10_bringIn_16) rfl rfl ?_
    refine g_iconst (v := (-1)) hC (dX10_bringIn_17) kc_m1 ?_
    refine g_iastore (n := 8) hC (dX10_bringIn_18) (zSHw2 q1) q2 ?_
    refine g_nmM (fun M18 e_M18 => ?_)
    have h := wpO_n e_M18 h
    refine g_aload_n (i := 0) (x := x0) hC (dX10_bringIn_19) rfl rfl ?_
    refine g_getR (r := x0 + 3) hC flX10_18 (dX10_bringIn_20) q1 rfl (zRFw3 q1) ?_
    refine g_iload_n (i := 1) (x := x1) hC (dX10_bringIn_23) rfl rfl ?_
    refine g_iconst (v := 0) hC (dX10_bringIn_24) kc_0 ?_
    refine g_iastore (n := 8) hC (dX10_bringIn_25) (zSHw3 q1) q2 ?_
    refine g_nmM (fun M25 e_M25 => ?_)
    have h := wpO_n e_M25 h
    refine g_aload_n (i := 0) (x := x0) hC (dX10_bringIn_26) rfl rfl ?_
    refine g_getR (r := x0 + 4) hC flX10_21 (dX10_bringIn_27) q1 rfl (zRFw4 q1) ?_
    refine g_iload_n (i := 1) (x := x1) hC (dX10_bringIn_30) rfl rfl ?_
    refine g_iload_n (i := 2) (x := x2) hC (dX10_bringIn_31) rfl rfl ?_
    refine g_iastore (n := 8) hC (dX10_bringIn_32) (zSHw4 q1) q2 ?_
    refine g_nmM (fun M32 e_M32 => ?_)
    have h := wpO_n e_M32 h
    refine g_aload_n (i := 0) (x := x0) hC (dX10_bringIn_33) rfl rfl ?_
    have h := wpO_b h
    refine g_callVi ([]) hC wvX10_55 (dX10_bringIn_34) q1 rfl (by omega) (Nat.le_of_ble_eq_true rfl) (cX10_inside_ok (by omega) x0 M32 h) (fun r3 N q => ?_)
    obtain ⟨rfl, h⟩ := q
    refine g_callSi ([.int r3]) hC wsX10_49 (dX10_bringIn_37) rfl (by omega) (Nat.le_of_ble_eq_true rfl) (cJ6_bitCount_0f7a4_ok (by omega) r3 M32 (K := fun r => r = fJ6_bitCount_0f7a4 r3) rfl) (fun r N q => ?_)
    obtain ⟨rfl, rfl⟩ := q
    refine g_ireturn hC hr (dX10_bringIn_40) ?_
    exact wpO_s h
  · have h := wpO_f c6 h
    refine g_bipush (v := (-2)) hC (dX10_bringIn_9) kb_m2 ?_
    refine g_ireturn hC hr (dX10_bringIn_11) ?_
    exact wpO_s h
/-! LostByState$Whereabouts.hand(II)I -/
theorem dX10_hand_0 : decode cX10_hand 0 = .ok (.aload_n 0, 1) := by decide +kernel
theorem dX10_hand_1 : decode cX10_hand 1 = .ok (.getfield 9, 3) := by decide +kernel
theorem dX10_hand_4 : decode cX10_hand 4 = .ok (.iload_n 1, 1) := by decide +kernel
theorem dX10_hand_5 : decode cX10_hand 5 = .ok (.iaload, 1) := by decide +kernel
theorem dX10_hand_6 : decode cX10_hand 6 = .ok (.istore_n 3, 1) := by decide +kernel
theorem dX10_hand_7 : decode cX10_hand 7 = .ok (.iload_n 3, 1) := by decide +kernel
theorem dX10_hand_8 : decode cX10_hand 8 = .ok (.ifCond .lt 8, 3) := by decide +kernel
theorem dX10_hand_11 : decode cX10_hand 11 = .ok (.iload_n 3, 1) := by decide +kernel
theorem dX10_hand_12 : decode cX10_hand 12 = .ok (.iload_n 2, 1) := by decide +kernel
theorem dX10_hand_13 : decode cX10_hand 13 = .ok (.if_icmp .ne 6, 3) := by decide +kernel
theorem dX10_hand_16 : decode cX10_hand 16 = .ok (.bipush (-2), 2) := by decide +kernel
theorem dX10_hand_18 : decode cX10_hand 18 = .ok (.ireturn, 1) := by decide +kernel
theorem dX10_hand_19 : decode cX10_hand 19 = .ok (.aload_n 0, 1) := by decide +kernel
theorem dX10_hand_20 : decode cX10_hand 20 = .ok (.getfield 9, 3) := by decide +kernel
theorem dX10_hand_23 : decode cX10_hand 23 = .ok (.iload_n 1, 1) := by decide +kernel
theorem dX10_hand_24 : decode cX10_hand 24 = .ok (.iload_n 2, 1) := by decide +kernel
theorem dX10_hand_25 : decode cX10_hand 25 = .ok (.iastore, 1) := by decide +kernel
theorem dX10_hand_26 : decode cX10_hand 26 = .ok (.iload_n 3, 1) := by decide +kernel
theorem dX10_hand_27 : decode cX10_hand 27 = .ok (.ireturn, 1) := by decide +kernel
def fX10_hand (x0 : Nat) (x1 : Int32) (x2 : Int32) (M : zM) : Option (Int32 × zM) := if zSH x0 = .inl 10 then (
  if zin x1 8 then (
  zlet (M.1 (x0 + 1) x1.toNatClampNeg) fun (x3_6 : Int32) =>
  if x3_6 < 0 then (
  some ((-2), M))
  else (
  if x3_6 = x2 then (
  some ((-2), M))
  else (
  zlet (zSI M (x0 + 1) x1.toNatClampNeg x2) fun (M25 : zM) =>
  some (x3_6, M25)))) else none) else none
set_option maxHeartbeats 4000000 in
theorem cX10_hand_ok {E : zE} {d : Nat} (hd : 0 ≤ d) (x0 : Nat) (x1 : Int32) (x2 : Int32) (M : zM) {K : (Int32 × zM) → Prop} (h : wpO (fX10_hand x0 x1 x2 M) K) : CMi E d yX10_hand cX10_hand 4 (some .int) [.ref x0, .int x1, .int x2] M (fun r N => K (r, N)) := by
  refine CMi.of (by decide) (Nat.le_of_ble_eq_true rfl) (fun Γ hC hr => ?_)
  have hC : Cx E Γ RX10 cX10_hand 4 d := hC
  show G E Γ 4 0 [(0, .ref x0), (1, .int x1), (2, .int x2)] [] M
  unfold fX10_hand at h
  refine g_aload_n (i := 0) (x := x0) hC (dX10_hand_0) rfl rfl ?_
  obtain ⟨q1, h⟩ := wpO_g h
  refine g_getR (r := x0 + 1) hC flX10_9 (dX10_hand_1) q1 rfl (zRFw1 q1) ?_
  refine g_iload_n (i := 1) (x := x1) hC (dX10_hand_4) rfl rfl ?_
  obtain ⟨q2, h⟩ := wpO_g h
  refine g_iaload (n := 8) hC (dX10_hand_5) (zSHw1 q1) q2 ?_
  refine g_nmi (fun x3_6 e_x3_6 => ?_)
  have h := wpO_n e_x3_6 h
  refine g_istore_n (i := 3) (lv2 := [(3, .int x3_6), (0, .ref x0), (1, .int x1), (2, .int x2)]) hC (dX10_hand_6) rfl (by decide) rfl ?_
  refine g_iload_n (i := 3) (x := x3_6) hC (dX10_hand_7) rfl rfl ?_
  refine g_if_lt (tgt := 16) hC (dX10_hand_8) (by decide) (fun c8 => ?_) (fun c8 => ?_)
  · have h := wpO_t c8 h
    refine g_bipush (v := (-2)) hC (dX10_hand_16) kb_m2 ?_
    refine g_ireturn hC hr (dX10_hand_18) ?_
    exact wpO_s h
  · have h := wpO_f c8 h
    refine g_iload_n (i := 3) (x := x3_6) hC (dX10_hand_11) rfl rfl ?_
    refine g_iload_n (i := 2) (x := x2) hC (dX10_hand_12) rfl rfl ?_
    refine g_icmp_ne (tgt := 19) hC (dX10_hand_13) (by decide) (fun c13 => ?_) (fun c13 => ?_)
    · have h := wpO_f c13 h
      refine g_aload_n (i := 0) (x := x0) hC (dX10_hand_19) rfl rfl ?_
      refine g_getR (r := x0 + 1) hC flX10_9 (dX10_hand_20) q1 rfl (zRFw1 q1) ?_
      refine g_iload_n (i := 1) (x := x1) hC (dX10_hand_23) rfl rfl ?_
      refine g_iload_n (i := 2) (x := x2) hC (dX10_hand_24) rfl rfl ?_
      refine g_iastore (n := 8) hC (dX10_hand_25) (zSHw1 q1) q2 ?_
      refine g_nmM (fun M25 e_M25 => ?_)
      have h := wpO_n e_M25 h
      refine g_iload_n (i := 3) (x := x3_6) hC (dX10_hand_26) rfl rfl ?_
      refine g_ireturn hC hr (dX10_hand_27) ?_
      exact wpO_s h
    · have h := wpO_t c13 h
      refine g_bipush (v := (-2)) hC (dX10_hand_16) kb_m2 ?_
      refine g_ireturn hC hr (dX10_hand_18) ?_
      exact wpO_s h
/-! LostByState$Whereabouts.daysLeft(II)I -/
theorem dX10_daysLeft_0 : decode cX10_daysLeft 0 = .ok (.iconst 1, 1) := by decide +kernel
theorem dX10_daysLeft_1 : decode cX10_daysLeft 1 = .ok (.iload_n 2, 1) := by decide +kernel
theorem dX10_daysLeft_2 : decode cX10_daysLeft 2 = .ok (.aload_n 0, 1) := by decide +kernel
theorem dX10_daysLeft_3 : decode cX10_daysLeft 3 = .ok (.getfield 18, 3) := by decide +kernel
theorem dX10_daysLeft_6 : decode cX10_daysLeft 6 = .ok (.iload_n 1, 1) := by decide +kernel
theorem dX10_daysLeft_7 : decode cX10_daysLeft 7 = .ok (.iaload, 1) := by decide +kernel
theorem dX10_daysLeft_8 : decode cX10_daysLeft 8 = .ok (.isub, 1) := by decide +kernel
theorem dX10_daysLeft_9 : decode cX10_daysLeft 9 = .ok (.invokestatic 58, 3) := by decide +kernel
theorem dX10_daysLeft_12 : decode cX10_daysLeft 12 = .ok (.ireturn, 1) := by decide +kernel
def fX10_daysLeft (x0 : Nat) (x1 : Int32) (x2 : Int32) (M : zM) : Option Int32 := if zSH x0 = .inl 10 then (
  if zin x1 8 then (
  some (zmax 1 (x2 - (M.1 (x0 + 3) x1.toNatClampNeg)))) else none) else none
set_option maxHeartbeats 4000000 in
theorem cX10_daysLeft_ok {E : zE} {d : Nat} (hd : 1 ≤ d) (x0 : Nat) (x1 : Int32) (x2 : Int32) (M : zM) {K : Int32 → Prop} (h : wpO (fX10_daysLeft x0 x1 x2 M) K) : CMi E d yX10_daysLeft cX10_daysLeft 3 (some .int) [.ref x0, .int x1, .int x2] M (fun r N => M = N ∧ K r) := by
  refine CMi.of (by decide) (Nat.le_of_ble_eq_true rfl) (fun Γ hC hr => ?_)
  have hC : Cx E Γ RX10 cX10_daysLeft 3 d := hC
  show G E Γ 3 0 [(0, .ref x0), (1, .int x1), (2, .int x2)] [] M
  unfold fX10_daysLeft at h
  refine g_iconst (v := 1) hC (dX10_daysLeft_0) kc_1 ?_
  refine g_iload_n (i := 2) (x := x2) hC (dX10_daysLeft_1) rfl rfl ?_
  refine g_aload_n (i := 0) (x := x0) hC (dX10_daysLeft_2) rfl rfl ?_
  obtain ⟨q1, h⟩ := wpO_g h
  refine g_getR (r := x0 + 3) hC flX10_18 (dX10_daysLeft_3) q1 rfl (zRFw3 q1) ?_
  refine g_iload_n (i := 1) (x := x1) hC (dX10_daysLeft_6) rfl rfl ?_
  obtain ⟨q2, h⟩ := wpO_g h
  refine g_iaload (n := 8) hC (dX10_daysLeft_7) (zSHw3 q1) q2 ?_
  refine g_isub hC (dX10_daysLeft_8) ?_
  refine g_max hC wmX10_58 (dX10_daysLeft_9) (by omega) (Nat.le_of_ble_eq_true rfl) ?_
  refine g_ireturn hC hr (dX10_daysLeft_12) ?_
  exact ⟨rfl, wpO_s h⟩
/-! LostByState$Whereabouts.passDay(I)I -/
theorem dX10_passDay_0 : decode cX10_passDay 0 = .ok (.iconst 0, 1) := by decide +kernel
theorem dX10_passDay_1 : decode cX10_passDay 1 = .ok (.istore_n 2, 1) := by decide +kernel
theorem dX10_passDay_2 : decode cX10_passDay 2 = .ok (.iconst 0, 1) := by decide +kernel
theorem dX10_passDay_3 : decode cX10_passDay 3 = .ok (.istore_n 3, 1) := by decide +kernel
theorem dX10_passDay_4 : decode cX10_passDay 4 = .ok (.iload_n 3, 1) := by decide +kernel
theorem dX10_passDay_5 : decode cX10_passDay 5 = .ok (.bipush 8, 2) := by decide +kernel
theorem dX10_passDay_7 : decode cX10_passDay 7 = .ok (.if_icmp .ge 66, 3) := by decide +kernel
theorem dX10_passDay_10 : decode cX10_passDay 10 = .ok (.aload_n 0, 1) := by decide +kernel
theorem dX10_passDay_11 : decode cX10_passDay 11 = .ok (.iload_n 3, 1) := by decide +kernel
theorem dX10_passDay_12 : decode cX10_passDay 12 = .ok (.invokevirtual 41, 3) := by decide +kernel
theorem dX10_passDay_15 : decode cX10_passDay 15 = .ok (.ifCond .ne 6, 3) := by decide +kernel
theorem dX10_passDay_18 : decode cX10_passDay 18 = .ok (.goto 49, 3) := by decide +kernel
theorem dX10_passDay_21 : decode cX10_passDay 21 = .ok (.aload_n 0, 1) := by decide +kernel
theorem dX10_passDay_22 : decode cX10_passDay 22 = .ok (.getfield 18, 3) := by decide +kernel
theorem dX10_passDay_25 : decode cX10_passDay 25 = .ok (.iload_n 3, 1) := by decide +kernel
theorem dX10_passDay_26 : decode cX10_passDay 26 = .ok (.bipush 99, 2) := by decide +kernel
theorem dX10_passDay_28 : decode cX10_passDay 28 = .ok (.aload_n 0, 1) := by decide +kernel
theorem dX10_passDay_29 : decode cX10_passDay 29 = .ok (.getfield 18, 3) := by decide +kernel
theorem dX10_passDay_32 : decode cX10_passDay 32 = .ok (.iload_n 3, 1) := by decide +kernel
theorem dX10_passDay_33 : decode cX10_passDay 33 = .ok (.iaload, 1) := by decide +kernel
theorem dX10_passDay_34 : decode cX10_passDay 34 = .ok (.iconst 1, 1) := by decide +kernel
theorem dX10_passDay_35 : decode cX10_passDay 35 = .ok (.iadd, 1) := by decide +kernel
theorem dX10_passDay_36 : decode cX10_passDay 36 = .ok (.invokestatic 67, 3) := by decide +kernel
theorem dX10_passDay_39 : decode cX10_passDay 39 = .ok (.iastore, 1) := by decide +kernel
theorem dX10_passDay_40 : decode cX10_passDay 40 = .ok (.aload_n 0, 1) := by decide +kernel
theorem dX10_passDay_41 : decode cX10_passDay 41 = .ok (.getfield 18, 3) := by decide +kernel
theorem dX10_passDay_44 : decode cX10_passDay 44 = .ok (.iload_n 3, 1) := by decide +kernel
theorem dX10_passDay_45 : decode cX10_passDay 45 = .ok (.iaload, 1) := by decide +kernel
theorem dX10_passDay_46 : decode cX10_passDay 46 = .ok (.iload_n 1, 1) := by decide +kernel
theorem dX10_passDay_47 : decode cX10_passDay 47 = .ok (.if_icmp .lt 20, 3) := by decide +kernel
theorem dX10_passDay_50 : decode cX10_passDay 50 = .ok (.aload_n 0, 1) := by decide +kernel
theorem dX10_passDay_51 : decode cX10_passDay 51 = .ok (.iload_n 3, 1) := by decide +kernel
theorem dX10_passDay_52 : decode cX10_passDay 52 = .ok (.aload_n 0, 1) := by decide +kernel
theorem dX10_passDay_53 : decode cX10_passDay 53 = .ok (.getfield 21, 3) := by decide +kernel
theorem dX10_passDay_56 : decode cX10_passDay 56 = .ok (.iload_n 3, 1) := by decide +kernel
theorem dX10_passDay_57 : decode cX10_passDay 57 = .ok (.iaload, 1) := by decide +kernel
theorem dX10_passDay_58 : decode cX10_passDay 58 = .ok (.invokevirtual 37, 3) := by decide +kernel
theorem dX10_passDay_61 : decode cX10_passDay 61 = .ok (.iload_n 2, 1) := by decide +kernel
theorem dX10_passDay_62 : decode cX10_passDay 62 = .ok (.iconst 1, 1) := by decide +kernel
theorem dX10_passDay_63 : decode cX10_passDay 63 = .ok (.iload_n 3, 1) := by decide +kernel
theorem dX10_passDay_64 : decode cX10_passDay 64 = .ok (.ishl, 1) := by decide +kernel
theorem dX10_passDay_65 : decode cX10_passDay 65 = .ok (.ior, 1) := by decide +kernel
theorem dX10_passDay_66 : decode cX10_passDay 66 = .ok (.istore_n 2, 1) := by decide +kernel
theorem dX10_passDay_67 : decode cX10_passDay 67 = .ok (.iinc 3 1, 3) := by decide +kernel
theorem dX10_passDay_70 : decode cX10_passDay 70 = .ok (.goto (-66), 3) := by decide +kernel
theorem dX10_passDay_73 : decode cX10_passDay 73 = .ok (.aload_n 0, 1) := by decide +kernel
theorem dX10_passDay_74 : decode cX10_passDay 74 = .ok (.dup, 1) := by decide +kernel
theorem dX10_passDay_75 : decode cX10_passDay 75 = .ok (.getfield 24, 3) := by decide +kernel
theorem dX10_passDay_78 : decode cX10_passDay 78 = .ok (.iconst 1, 1) := by decide +kernel
theorem dX10_passDay_79 : decode cX10_passDay 79 = .ok (.iadd, 1) := by decide +kernel
theorem dX10_passDay_80 : decode cX10_passDay 80 = .ok (.putfield 24, 3) := by decide +kernel
theorem dX10_passDay_83 : decode cX10_passDay 83 = .ok (.iload_n 2, 1) := by decide +kernel
theorem dX10_passDay_84 : decode cX10_passDay 84 = .ok (.ireturn, 1) := by decide +kernel
def fX10_passDay_L4 (x0 : Nat) (x1 : Int32) : Nat → Int32 → Int32 → zM → Option (Int32 × zM)
  | 0, _, _, _ => none
  | n + 1, x2, x3, M => if 8 ≤ x3 then (
    some (x2, M))
    else (
    if zSH x0 = .inl 10 then (
    (fX10_isIn x0 x3 M).bind fun (r2 : Int32) =>
    (if r2 = 0 then (
    some (x2, M))
    else (
    if zin x3 8 then (
    zlet (zSI M (x0 + 3) x3.toNatClampNeg (zmin 99 ((M.1 (x0 + 3) x3.toNatClampNeg) + 1))) fun (M39 : zM) =>
    if (M39.1 (x0 + 3) x3.toNatClampNeg) < x1 then (
    some (x2, M39))
    else (
    (fX10_putWith x0 x3 (M39.1 (x0 + 4) x3.toNatClampNeg) M39).bind fun (M58 : zM) =>
    zlet (x2 ||| (zshl 1 x3)) fun (x2_66 : Int32) =>
    some (x2_66, M58))) else none) : Option (Int32 × zM)).bind fun (q : Int32 × zM) => zp q fun x2_67 M_67 =>
    fX10_passDay_L4 x0 x1 n x2_67 (x3 + 1) M_67) else none)
def fX10_passDay (x0 : Nat) (x1 : Int32) (M : zM) : Option (Int32 × zM) := (fX10_passDay_L4 x0 x1 4000 0 0 M).bind fun (q : Int32 × zM) => zp q fun x2_73 M_73 =>
  if zSH x0 = .inl 10 then (
  zlet (zSI M_73 x0 4 ((M_73.1 x0 4) + 1)) fun (M80 : zM) =>
  some (x2_73, M80)) else none
set_option maxHeartbeats 4000000 in
theorem lX10_passDay_4 {E : zE} {Γ : zT} {d : Nat} {K1 : (Int32 × zM) → Prop} (hC : Cx E Γ RX10 cX10_passDay 4 d) (hd : 1 ≤ d) (x0 : Nat) (x1 : Int32) (hx : ∀ (x2_73 : Int32) (M_73 : zM), K1 (x2_73, M_73) → G E Γ 4 73 [(0, .ref x0), (2, .int x2_73)] [] M_73) :
    ∀ (n : Nat) (x2 : Int32) (x3 : Int32) (M : zM), wpO (fX10_passDay_L4 x0 x1 n x2 x3 M) K1 → G E Γ 4 4 [(0, .ref x0), (1, .int x1), (2, .int x2), (3, .int x3)] [] M := by
  intro n
  induction n with
  | zero =>
    intro x2 x3 M h
    exact (wpO_0 h).elim
  | succ n ih =>
    intro x2 x3 M h
    rw [fX10_passDay_L4.eq_2] at h
    refine g_iload_n (i := 3) (x := x3) hC (dX10_passDay_4) rfl rfl ?_
    refine g_bipush (v := 8) hC (dX10_passDay_5) kb_8 ?_
    refine g_icmp_ge (tgt := 73) hC (dX10_passDay_7) (by decide) (fun c7 => ?_) (fun c7 => ?_)
    · have h := wpO_t c7 h
      refine g_sub (lv' := [(0, .ref x0), (2, .int x2)]) [0, 2] rfl ?_
      exact hx _ _ (wpO_s h)
    · have h := wpO_f c7 h
      refine g_aload_n (i := 0) (x := x0) hC (dX10_passDay_10) rfl rfl ?_
      refine g_iload_n (i := 3) (x := x3) hC (dX10_passDay_11) rfl rfl ?_
      obtain ⟨q1, h⟩ := wpO_g h
      have h := wpO_b h
      refine g_callVi ([.int x3]) hC wvX10_41 (dX10_passDay_12) q1 rfl (by omega) (Nat.le_of_ble_eq_true rfl) (cX10_isIn_ok (by omega) x0 x3 M h) (fun r2 N q => ?_)
      obtain ⟨rfl, h⟩ := q
      refine wpO_bJ h (fun KJ3 hKJ3 h => ?_)
      have hJ3 : ∀ (x2_67 : Int32) (M_67 : zM), KJ3 (x2_67, M_67) → G E Γ 4 67 [(0, .ref x0), (1, .int x1), (2, .int x2_67), (3, .int x3)] [] M_67 := by
        intro x2_67 M_67 h
        have h := hKJ3 _ h
        have h := wpO_p h
        refine g_iinc (x := x3) (v := (x3 + 1)) (lv2 := [(3, .int (x3 + 1)), (0, .ref x0), (1, .int x1), (2, .int x2_67)]) hC (dX10_passDay_67) rfl rfl (by decide) rfl ?_
        refine g_goto (tgt := 4) hC (dX10_passDay_70) (by decide) ?_
        refine g_sub (lv' := [(0, .ref x0), (1, .int x1), (2, .int x2_67), (3, .int (x3 + 1))]) [1, 2, 3, 0] rfl ?_
        exact ih _ _ _ h
      refine g_if_ne (tgt := 21) hC (dX10_passDay_15) (by decide) (fun c15 => ?_) (fun c15 => ?_)
      · have h := wpO_f c15 h
        refine g_aload_n (i := 0) (x := x0) hC (dX10_passDay_21) rfl rfl ?_
        refine g_getR (r := x0 + 3) hC flX10_18 (dX10_passDay_22) q1 rfl (zRFw3 q1) ?_
        refine g_iload_n (i := 3) (x := x3) hC (dX10_passDay_25) rfl rfl ?_
        refine g_bipush (v := 99) hC (dX10_passDay_26) kb_99 ?_
        refine g_aload_n (i := 0) (x := x0) hC (dX10_passDay_28) rfl rfl ?_
        refine g_getR (r := x0 + 3) hC flX10_18 (dX10_passDay_29) q1 rfl (zRFw3 q1) ?_
        refine g_iload_n (i := 3) (x := x3) hC (dX10_passDay_32) rfl rfl ?_
        obtain ⟨q4, h⟩ := wpO_g h
        refine g_iaload (n := 8) hC (dX10_passDay_33) (zSHw3 q1) q4 ?_
        refine g_iconst (v := 1) hC (dX10_passDay_34) kc_1 ?_
        refine g_iadd hC (dX10_passDay_35) ?_
        refine g_min hC wmX10_67 (dX10_passDay_36) (by omega) (Nat.le_of_ble_eq_true rfl) ?_
        refine g_iastore (n := 8) hC (dX10_passDay_39) (zSHw3 q1) q4 ?_
        refine g_nmM (fun M39 e_M39 => ?_)
        have h := wpO_n e_M39 h
        refine g_aload_n (i := 0) (x := x0) hC (dX10_passDay_40) rfl rfl ?_
        refine g_getR (r := x0 + 3) hC flX10_18 (dX10_passDay_41) q1 rfl (zRFw3 q1) ?_
        refine g_iload_n (i := 3) (x := x3) hC (dX10_passDay_44) rfl rfl ?_
        refine g_iaload (n := 8) hC (dX10_passDay_45) (zSHw3 q1) q4 ?_
        refine g_iload_n (i := 1) (x := x1) hC (dX10_passDay_46) rfl rfl ?_
        refine g_icmp_lt (tgt := 67) hC (dX10_passDay_47) (by decide) (fun c47 => ?_) (fun c47 => ?_)
        · have h := wpO_t c47 h
          exact hJ3 _ _ (wpO_s h)
        · have h := wpO_f c47 h
          refine g_aload_n (i := 0) (x := x0) hC (dX10_passDay_50) rfl rfl ?_
          refine g_iload_n (i := 3) (x := x3) hC (dX10_passDay_51) rfl rfl ?_
          refine g_aload_n (i := 0) (x := x0) hC (dX10_passDay_52) rfl rfl ?_
          refine g_getR (r := x0 + 4) hC flX10_21 (dX10_passDay_53) q1 rfl (zRFw4 q1) ?_
          refine g_iload_n (i := 3) (x := x3) hC (dX10_passDay_56) rfl rfl ?_
          refine g_iaload (n := 8) hC (dX10_passDay_57) (zSHw4 q1) q4 ?_
          have h := wpO_b h
          refine g_callVv ([.int x3, .int (M39.1 (x0 + 4) x3.toNatClampNeg)]) hC wvX10_37 (dX10_passDay_58) q1 rfl (by omega) (Nat.le_of_ble_eq_true rfl) (cX10_putWith_ok (by omega) x0 x3 (M39.1 (x0 + 4) x3.toNatClampNeg) M39 h) (fun M58 h => ?_)
          refine g_iload_n (i := 2) (x := x2) hC (dX10_passDay_61) rfl rfl ?_
          refine g_iconst (v := 1) hC (dX10_passDay_62) kc_1 ?_
          refine g_iload_n (i := 3) (x := x3) hC (dX10_passDay_63) rfl rfl ?_
          refine g_ishl hC (dX10_passDay_64) ?_
          refine g_ior hC (dX10_passDay_65) ?_
          refine g_nmi (fun x2_66 e_x2_66 => ?_)
          have h := wpO_n e_x2_66 h
          refine g_istore_n (i := 2) (lv2 := [(2, .int x2_66), (0, .ref x0), (1, .int x1), (3, .int x3)]) hC (dX10_passDay_66) rfl (by decide) rfl ?_
          refine g_sub (lv' := [(0, .ref x0), (1, .int x1), (2, .int x2_66), (3, .int x3)]) [1, 2, 0, 3] rfl ?_
          exact hJ3 _ _ (wpO_s h)
      · have h := wpO_t c15 h
        refine g_goto (tgt := 67) hC (dX10_passDay_18) (by decide) ?_
        exact hJ3 _ _ (wpO_s h)
set_option maxHeartbeats 4000000 in
theorem cX10_passDay_ok {E : zE} {d : Nat} (hd : 1 ≤ d) (x0 : Nat) (x1 : Int32) (M : zM) {K : (Int32 × zM) → Prop} (h : wpO (fX10_passDay x0 x1 M) K) : CMi E d yX10_passDay cX10_passDay 4 (some .int) [.ref x0, .int x1] M (fun r N => K (r, N)) := by
  refine CMi.of (by decide) (Nat.le_of_ble_eq_true rfl) (fun Γ hC hr => ?_)
  have hC : Cx E Γ RX10 cX10_passDay 4 d := hC
  show G E Γ 4 0 [(0, .ref x0), (1, .int x1)] [] M
  unfold fX10_passDay at h
  refine g_iconst (v := 0) hC (dX10_passDay_0) kc_0 ?_
  refine g_istore_n (i := 2) (lv2 := [(2, .int 0), (0, .ref x0), (1, .int x1)]) hC (dX10_passDay_1) rfl (by decide) rfl ?_
  refine g_iconst (v := 0) hC (dX10_passDay_2) kc_0 ?_
  refine g_istore_n (i := 3) (lv2 := [(3, .int 0), (2, .int 0), (0, .ref x0), (1, .int x1)]) hC (dX10_passDay_3) rfl (by decide) rfl ?_
  refine g_sub (lv' := [(0, .ref x0), (1, .int x1), (2, .int 0), (3, .int 0)]) [2, 3, 1, 0] rfl ?_
  refine wpO_bJ h (fun KL4 hKL4 h => ?_)
  refine lX10_passDay_4 (K1 := KL4) hC (by omega) x0 x1 (fun x2_73 M_73 h => ?_) _ _ _ _ h
  have h := hKL4 _ h
  have h := wpO_p h
  refine g_aload_n (i := 0) (x := x0) hC (dX10_passDay_73) rfl rfl ?_
  refine g_dup hC (dX10_passDay_74) rfl ?_
  obtain ⟨q6, h⟩ := wpO_g h
  refine g_getI hC flX10_24 (dX10_passDay_75) q6 rfl ?_
  refine g_iconst (v := 1) hC (dX10_passDay_78) kc_1 ?_
  refine g_iadd hC (dX10_passDay_79) ?_
  refine g_putI hC fpX10_24 (dX10_passDay_80) q6 rfl rfl rfl ?_
  refine g_nmM (fun M80 e_M80 => ?_)
  have h := wpO_n e_M80 h
  refine g_iload_n (i := 2) (x := x2_73) hC (dX10_passDay_83) rfl rfl ?_
  refine g_ireturn hC hr (dX10_passDay_84) ?_
  exact wpO_s h
/-! LostByState$Whereabouts.passDays(II)I -/
theorem dX10_passDays_0 : decode cX10_passDays 0 = .ok (.iconst 0, 1) := by decide +kernel
theorem dX10_passDays_1 : decode cX10_passDays 1 = .ok (.istore_n 3, 1) := by decide +kernel
theorem dX10_passDays_2 : decode cX10_passDays 2 = .ok (.iconst 0, 1) := by decide +kernel
theorem dX10_passDays_3 : decode cX10_passDays 3 = .ok (.istore 4, 2) := by decide +kernel
theorem dX10_passDays_5 : decode cX10_passDays 5 = .ok (.iload 4, 2) := by decide +kernel
theorem dX10_passDays_7 : decode cX10_passDays 7 = .ok (.iload_n 1, 1) := by decide +kernel
theorem dX10_passDays_8 : decode cX10_passDays 8 = .ok (.if_icmp .ge 17, 3) := by decide +kernel
theorem dX10_passDays_11 : decode cX10_passDays 11 = .ok (.iload_n 3, 1) := by decide +kernel
theorem dX10_passDays_12 : decode cX10_passDays 12 = .ok (.aload_n 0, 1) := by decide +kernel
theorem dX10_passDays_13 : decode cX10_passDays 13 = .ok (.iload_n 2, 1) := by decide +kernel
theorem dX10_passDays_14 : decode cX10_passDays 14 = .ok (.invokevirtual 64, 3) := by decide +kernel
theorem dX10_passDays_17 : decode cX10_passDays 17 = .ok (.ior, 1) := by decide +kernel
theorem dX10_passDays_18 : decode cX10_passDays 18 = .ok (.istore_n 3, 1) := by decide +kernel
theorem dX10_passDays_19 : decode cX10_passDays 19 = .ok (.iinc 4 1, 3) := by decide +kernel
theorem dX10_passDays_22 : decode cX10_passDays 22 = .ok (.goto (-17), 3) := by decide +kernel
theorem dX10_passDays_25 : decode cX10_passDays 25 = .ok (.iload_n 3, 1) := by decide +kernel
theorem dX10_passDays_26 : decode cX10_passDays 26 = .ok (.ireturn, 1) := by decide +kernel
def fX10_passDays_L5 (x0 : Nat) (x1 : Int32) (x2 : Int32) : Nat → Int32 → Int32 → zM → Option (Int32 × zM)
  | 0, _, _, _ => none
  | n + 1, x3, x4, M => if x1 ≤ x4 then (
    some (x3, M))
    else (
    if zSH x0 = .inl 10 then (
    (fX10_passDay x0 x2 M).bind fun (q : Int32 × zM) => zp q fun r2 M14 =>
    zlet (x3 ||| r2) fun (x3_18 : Int32) =>
    fX10_passDays_L5 x0 x1 x2 n x3_18 (x4 + 1) M14) else none)
def fX10_passDays (x0 : Nat) (x1 : Int32) (x2 : Int32) (M : zM) : Option (Int32 × zM) := (fX10_passDays_L5 x0 x1 x2 4000 0 0 M).bind fun (q : Int32 × zM) => zp q fun x3_25 M_25 =>
  some (x3_25, M_25)
set_option maxHeartbeats 4000000 in
theorem lX10_passDays_5 {E : zE} {Γ : zT} {d : Nat} {K1 : (Int32 × zM) → Prop} (hC : Cx E Γ RX10 cX10_passDays 5 d) (hd : 2 ≤ d) (x0 : Nat) (x1 : Int32) (x2 : Int32) (hx : ∀ (x3_25 : Int32) (M_25 : zM), K1 (x3_25, M_25) → G E Γ 5 25 [(3, .int x3_25)] [] M_25) :
    ∀ (n : Nat) (x3 : Int32) (x4 : Int32) (M : zM), wpO (fX10_passDays_L5 x0 x1 x2 n x3 x4 M) K1 → G E Γ 5 5 [(0, .ref x0), (1, .int x1), (2, .int x2), (3, .int x3), (4, .int x4)] [] M := by
  intro n
  induction n with
  | zero =>
    intro x3 x4 M h
    exact (wpO_0 h).elim
  | succ n ih =>
    intro x3 x4 M h
    rw [fX10_passDays_L5.eq_2] at h
    refine g_iload (i := 4) (x := x4) hC (dX10_passDays_5) rfl ?_
    refine g_iload_n (i := 1) (x := x1) hC (dX10_passDays_7) rfl rfl ?_
    refine g_icmp_ge (tgt := 25) hC (dX10_passDays_8) (by decide) (fun c8 => ?_) (fun c8 => ?_)
    · have h := wpO_t c8 h
      refine g_sub (lv' := [(3, .int x3)]) [3] rfl ?_
      exact hx _ _ (wpO_s h)
    · have h := wpO_f c8 h
      refine g_iload_n (i := 3) (x := x3) hC (dX10_passDays_11) rfl rfl ?_
      refine g_aload_n (i := 0) (x := x0) hC (dX10_passDays_12) rfl rfl ?_
      refine g_iload_n (i := 2) (x := x2) hC (dX10_passDays_13) rfl rfl ?_
      obtain ⟨q1, h⟩ := wpO_g h
      have h := wpO_b h
      refine g_callVi ([.int x2]) hC wvX10_64 (dX10_passDays_14) q1 rfl (by omega) (Nat.le_of_ble_eq_true rfl) (cX10_passDay_ok (by omega) x0 x2 M h) (fun r2 M14 h => ?_)
      have h := wpO_p h
      refine g_ior hC (dX10_passDays_17) ?_
      refine g_nmi (fun x3_18 e_x3_18 => ?_)
      have h := wpO_n e_x3_18 h
      refine g_istore_n (i := 3) (lv2 := [(3, .int x3_18), (0, .ref x0), (1, .int x1), (2, .int x2), (4, .int x4)]) hC (dX10_passDays_18) rfl (by decide) rfl ?_
      refine g_iinc (x := x4) (v := (x4 + 1)) (lv2 := [(4, .int (x4 + 1)), (3, .int x3_18), (0, .ref x0), (1, .int x1), (2, .int x2)]) hC (dX10_passDays_19) rfl rfl (by decide) rfl ?_
      refine g_goto (tgt := 5) hC (dX10_passDays_22) (by decide) ?_
      refine g_sub (lv' := [(0, .ref x0), (1, .int x1), (2, .int x2), (3, .int x3_18), (4, .int (x4 + 1))]) [2, 3, 4, 1, 0] rfl ?_
      exact ih _ _ _ h
set_option maxHeartbeats 4000000 in
theorem cX10_passDays_ok {E : zE} {d : Nat} (hd : 2 ≤ d) (x0 : Nat) (x1 : Int32) (x2 : Int32) (M : zM) {K : (Int32 × zM) → Prop} (h : wpO (fX10_passDays x0 x1 x2 M) K) : CMi E d yX10_passDays cX10_passDays 5 (some .int) [.ref x0, .int x1, .int x2] M (fun r N => K (r, N)) := by
  refine CMi.of (by decide) (Nat.le_of_ble_eq_true rfl) (fun Γ hC hr => ?_)
  have hC : Cx E Γ RX10 cX10_passDays 5 d := hC
  show G E Γ 5 0 [(0, .ref x0), (1, .int x1), (2, .int x2)] [] M
  unfold fX10_passDays at h
  refine g_iconst (v := 0) hC (dX10_passDays_0) kc_0 ?_
  refine g_istore_n (i := 3) (lv2 := [(3, .int 0), (0, .ref x0), (1, .int x1), (2, .int x2)]) hC (dX10_passDays_1) rfl (by decide) rfl ?_
  refine g_iconst (v := 0) hC (dX10_passDays_2) kc_0 ?_
  refine g_istore (i := 4) (lv2 := [(4, .int 0), (3, .int 0), (0, .ref x0), (1, .int x1), (2, .int x2)]) hC (dX10_passDays_3) (by decide) rfl ?_
  refine g_sub (lv' := [(0, .ref x0), (1, .int x1), (2, .int x2), (3, .int 0), (4, .int 0)]) [2, 3, 4, 1, 0] rfl ?_
  refine wpO_bJ h (fun KL5 hKL5 h => ?_)
  refine lX10_passDays_5 (K1 := KL5) hC (by omega) x0 x1 x2 (fun x3_25 M_25 h => ?_) _ _ _ _ h
  have h := hKL5 _ h
  have h := wpO_p h
  refine g_iload_n (i := 3) (x := x3_25) hC (dX10_passDays_25) rfl rfl ?_
  refine g_ireturn hC hr (dX10_passDays_26) ?_
  exact wpO_s h
/-! LostByState.sign(I)I -/
theorem dX11_sign_0 : decode cX11_sign 0 = .ok (.aload_n 0, 1) := by decide +kernel
theorem dX11_sign_1 : decode cX11_sign 1 = .ok (.getfield 10, 3) := by decide +kernel
theorem dX11_sign_4 : decode cX11_sign 4 = .ok (.invokevirtual 116, 3) := by decide +kernel
theorem dX11_sign_7 : decode cX11_sign 7 = .ok (.ifCond .eq 14, 3) := by decide +kernel
theorem dX11_sign_10 : decode cX11_sign 10 = .ok (.aload_n 0, 1) := by decide +kernel
theorem dX11_sign_11 : decode cX11_sign 11 = .ok (.getfield 10, 3) := by decide +kernel
theorem dX11_sign_14 : decode cX11_sign 14 = .ok (.iload_n 1, 1) := by decide +kernel
theorem dX11_sign_15 : decode cX11_sign 15 = .ok (.invokevirtual 120, 3) := by decide +kernel
theorem dX11_sign_18 : decode cX11_sign 18 = .ok (.goto 4, 3) := by decide +kernel
theorem dX11_sign_21 : decode cX11_sign 21 = .ok (.iconst (-1), 1) := by decide +kernel
theorem dX11_sign_22 : decode cX11_sign 22 = .ok (.ireturn, 1) := by decide +kernel
def fX11_sign (x1 : Int32) (M : zM) : Option (Int32 × zM) := if (fX9_hasRoomForFour M) = 0 then (
  some ((-1), M))
  else (
  (fX9_append x1 M).bind fun (q : Int32 × zM) => zp q fun r2 M15 =>
  some (r2, M15))
set_option maxHeartbeats 4000000 in
theorem cX11_sign_ok {E : zE} {d : Nat} (hd : 1 ≤ d) (x1 : Int32) (M : zM) {K : (Int32 × zM) → Prop} (h : wpO (fX11_sign x1 M) K) : CMi E d yX11_sign cX11_sign 2 (some .int) [.ref 0, .int x1] M (fun r N => K (r, N)) := by
  refine CMi.of (by decide) (Nat.le_of_ble_eq_true rfl) (fun Γ hC hr => ?_)
  have hC : Cx E Γ RX11 cX11_sign 2 d := hC
  show G E Γ 2 0 [(0, .ref 0), (1, .int x1)] [] M
  unfold fX11_sign at h
  refine g_aload_n (i := 0) (x := 0) hC (dX11_sign_0) rfl rfl ?_
  refine g_getR (r := 1) hC flX11_10 (dX11_sign_1) rfl rfl rfl ?_
  refine g_callVi ([]) hC wvX11_116 (dX11_sign_4) rfl rfl (by omega) (Nat.le_of_ble_eq_true rfl) (cX9_hasRoomForFour_ok (by omega) M (K := fun r => r = fX9_hasRoomForFour M) rfl) (fun r N q => ?_)
  obtain ⟨rfl, rfl⟩ := q
  refine g_if_eq (tgt := 21) hC (dX11_sign_7) (by decide) (fun c7 => ?_) (fun c7 => ?_)
  · have h := wpO_t c7 h
    refine g_iconst (v := (-1)) hC (dX11_sign_21) kc_m1 ?_
    refine g_ireturn hC hr (dX11_sign_22) ?_
    exact wpO_s h
  · have h := wpO_f c7 h
    refine g_aload_n (i := 0) (x := 0) hC (dX11_sign_10) rfl rfl ?_
    refine g_getR (r := 1) hC flX11_10 (dX11_sign_11) rfl rfl rfl ?_
    refine g_iload_n (i := 1) (x := x1) hC (dX11_sign_14) rfl rfl ?_
    have h := wpO_b h
    refine g_callVi ([.int x1]) hC wvX11_120 (dX11_sign_15) rfl rfl (by omega) (Nat.le_of_ble_eq_true rfl) (cX9_append_ok (by omega) x1 M h) (fun r2 M15 h => ?_)
    have h := wpO_p h
    refine g_goto (tgt := 22) hC (dX11_sign_18) (by decide) ?_
    refine g_ireturn hC hr (dX11_sign_22) ?_
    exact wpO_s h
/-! LostByState.end(I)Z -/
theorem dX11_end_0 : decode cX11_end 0 = .ok (.aload_n 0, 1) := by decide +kernel
theorem dX11_end_1 : decode cX11_end 1 = .ok (.getfield 10, 3) := by decide +kernel
theorem dX11_end_4 : decode cX11_end 4 = .ok (.iload_n 1, 1) := by decide +kernel
theorem dX11_end_5 : decode cX11_end 5 = .ok (.invokevirtual 124, 3) := by decide +kernel
theorem dX11_end_8 : decode cX11_end 8 = .ok (.ireturn, 1) := by decide +kernel
def fX11_end (x1 : Int32) (M : zM) : Int32 × zM := zlet ((fX9_cutTo x1 M).2) fun (M5 : zM) =>
  ((fX9_cutTo x1 M).1, M5)
theorem bX11_end (x1 : Int32) (M : zM) : (fX11_end x1 M).1 = 0 ∨ (fX11_end x1 M).1 = 1 := by
  unfold fX11_end
  try simp only [zlet, zp, zj]
  repeat' split
  all_goals first | exact Or.inl rfl | exact Or.inr rfl | (simp; done) | apply bX9_cutTo
set_option maxHeartbeats 4000000 in
theorem cX11_end_ok {E : zE} {d : Nat} (hd : 1 ≤ d) (x1 : Int32) (M : zM) {K : (Int32 × zM) → Prop} (h : wpI (fX11_end x1 M) K) : CMi E d yX11_end cX11_end 2 (some .boolean) [.ref 0, .int x1] M (fun r N => K (r, N)) := by
  refine CMi.of (by decide) (Nat.le_of_ble_eq_true rfl) (fun Γ hC hr => ?_)
  have hC : Cx E Γ RX11 cX11_end 2 d := hC
  show G E Γ 2 0 [(0, .ref 0), (1, .int x1)] [] M
  unfold fX11_end at h
  refine g_aload_n (i := 0) (x := 0) hC (dX11_end_0) rfl rfl ?_
  refine g_getR (r := 1) hC flX11_10 (dX11_end_1) rfl rfl rfl ?_
  refine g_iload_n (i := 1) (x := x1) hC (dX11_end_4) rfl rfl ?_
  refine g_callVi ([.int x1]) hC wvX11_124 (dX11_end_5) rfl rfl (by omega) (Nat.le_of_ble_eq_true rfl) (cX9_cutTo_ok (by omega) x1 M (K := fun r => r = fX9_cutTo x1 M) rfl) (fun r N q => ?_)
  obtain ⟨rfl, rfl⟩ : r = (fX9_cutTo x1 M).1 ∧ N = (fX9_cutTo x1 M).2 := ⟨congrArg Prod.fst q, congrArg Prod.snd q⟩
  refine g_nmM (fun M5 e_M5 => ?_)
  have h := wpI_n e_M5 h
  refine g_zreturn hC hr (dX11_end_8) (bX9_cutTo x1 M) ?_
  exact wpI_s h
/-! LostByState.forgetThePast()V -/
theorem dX11_forgetThePast_0 : decode cX11_forgetThePast 0 = .ok (.aload_n 0, 1) := by decide +kernel
theorem dX11_forgetThePast_1 : decode cX11_forgetThePast 1 = .ok (.getfield 43, 3) := by decide +kernel
theorem dX11_forgetThePast_4 : decode cX11_forgetThePast 4 = .ok (.iconst 0, 1) := by decide +kernel
theorem dX11_forgetThePast_5 : decode cX11_forgetThePast 5 = .ok (.putfield 268, 3) := by decide +kernel
theorem dX11_forgetThePast_8 : decode cX11_forgetThePast 8 = .ok (.iconst 0, 1) := by decide +kernel
theorem dX11_forgetThePast_9 : decode cX11_forgetThePast 9 = .ok (.istore_n 1, 1) := by decide +kernel
theorem dX11_forgetThePast_10 : decode cX11_forgetThePast 10 = .ok (.iload_n 1, 1) := by decide +kernel
theorem dX11_forgetThePast_11 : decode cX11_forgetThePast 11 = .ok (.iconst 2, 1) := by decide +kernel
theorem dX11_forgetThePast_12 : decode cX11_forgetThePast 12 = .ok (.if_icmp .ge 16, 3) := by decide +kernel
theorem dX11_forgetThePast_15 : decode cX11_forgetThePast 15 = .ok (.aload_n 0, 1) := by decide +kernel
theorem dX11_forgetThePast_16 : decode cX11_forgetThePast 16 = .ok (.getfield 51, 3) := by decide +kernel
theorem dX11_forgetThePast_19 : decode cX11_forgetThePast 19 = .ok (.iload_n 1, 1) := by decide +kernel
theorem dX11_forgetThePast_20 : decode cX11_forgetThePast 20 = .ok (.iconst 0, 1) := by decide +kernel
theorem dX11_forgetThePast_21 : decode cX11_forgetThePast 21 = .ok (.bastore, 1) := by decide +kernel
theorem dX11_forgetThePast_22 : decode cX11_forgetThePast 22 = .ok (.iinc 1 1, 3) := by decide +kernel
theorem dX11_forgetThePast_25 : decode cX11_forgetThePast 25 = .ok (.goto (-15), 3) := by decide +kernel
theorem dX11_forgetThePast_28 : decode cX11_forgetThePast 28 = .ok (.return_, 1) := by decide +kernel
def fX11_forgetThePast_L10 : Nat → Int32 → zM → Option zM
  | 0, _, _ => none
  | n + 1, x1, M => if 2 ≤ x1 then (
    some M)
    else (
    if zin x1 2 then (
    zlet (zSI M 12 x1.toNatClampNeg (vp_nar .boolean 0)) fun (M21 : zM) =>
    fX11_forgetThePast_L10 n (x1 + 1) M21) else none)
def fX11_forgetThePast  (M : zM) : Option zM := zlet (zSI M 9 2 0) fun (M5 : zM) =>
  (fX11_forgetThePast_L10 4000 0 M5).bind fun (M_28 : zM) =>
  some M_28
set_option maxHeartbeats 4000000 in
theorem lX11_forgetThePast_10 {E : zE} {Γ : zT} {d : Nat} {K1 : zM → Prop} (hC : Cx E Γ RX11 cX11_forgetThePast 2 d) (hd : 0 ≤ d) (hx : ∀ (M_28 : zM), K1 M_28 → G E Γ 2 28 [] [] M_28) :
    ∀ (n : Nat) (x1 : Int32) (M : zM), wpO (fX11_forgetThePast_L10 n x1 M) K1 → G E Γ 2 10 [(0, .ref 0), (1, .int x1)] [] M := by
  intro n
  induction n with
  | zero =>
    intro x1 M h
    exact (wpO_0 h).elim
  | succ n ih =>
    intro x1 M h
    rw [fX11_forgetThePast_L10.eq_2] at h
    refine g_iload_n (i := 1) (x := x1) hC (dX11_forgetThePast_10) rfl rfl ?_
    refine g_iconst (v := 2) hC (dX11_forgetThePast_11) kc_2 ?_
    refine g_icmp_ge (tgt := 28) hC (dX11_forgetThePast_12) (by decide) (fun c12 => ?_) (fun c12 => ?_)
    · have h := wpO_t c12 h
      refine g_sub (lv' := []) [] rfl ?_
      exact hx _ (wpO_s h)
    · have h := wpO_f c12 h
      refine g_aload_n (i := 0) (x := 0) hC (dX11_forgetThePast_15) rfl rfl ?_
      refine g_getR (r := 12) hC flX11_51 (dX11_forgetThePast_16) rfl rfl rfl ?_
      refine g_iload_n (i := 1) (x := x1) hC (dX11_forgetThePast_19) rfl rfl ?_
      refine g_iconst (v := 0) hC (dX11_forgetThePast_20) kc_0 ?_
      obtain ⟨q1, h⟩ := wpO_g h
      refine g_zastore (n := 2) hC (dX11_forgetThePast_21) rfl q1 ?_
      refine g_nmM (fun M21 e_M21 => ?_)
      have h := wpO_n e_M21 h
      refine g_iinc (x := x1) (v := (x1 + 1)) (lv2 := [(1, .int (x1 + 1)), (0, .ref 0)]) hC (dX11_forgetThePast_22) rfl rfl (by decide) rfl ?_
      refine g_goto (tgt := 10) hC (dX11_forgetThePast_25) (by decide) ?_
      refine g_sub (lv' := [(0, .ref 0), (1, .int (x1 + 1))]) [1, 0] rfl ?_
      exact ih _ _ h
set_option maxHeartbeats 4000000 in
theorem cX11_forgetThePast_ok {E : zE} {d : Nat} (hd : 0 ≤ d)  (M : zM) {K : zM → Prop} (h : wpO (fX11_forgetThePast  M) K) : CMv E d yX11_forgetThePast cX11_forgetThePast 2 (none) [.ref 0] M K := by
  refine CMv.of (by decide) (Nat.le_of_ble_eq_true rfl) (fun Γ hC hr => ?_)
  have hC : Cx E Γ RX11 cX11_forgetThePast 2 d := hC
  show G E Γ 2 0 [(0, .ref 0)] [] M
  unfold fX11_forgetThePast at h
  refine g_aload_n (i := 0) (x := 0) hC (dX11_forgetThePast_0) rfl rfl ?_
  refine g_getR (r := 9) hC flX11_43 (dX11_forgetThePast_1) rfl rfl rfl ?_
  refine g_iconst (v := 0) hC (dX11_forgetThePast_4) kc_0 ?_
  refine g_putI hC fpX11_268 (dX11_forgetThePast_5) rfl rfl rfl rfl ?_
  refine g_nmM (fun M5 e_M5 => ?_)
  have h := wpO_n e_M5 h
  refine g_iconst (v := 0) hC (dX11_forgetThePast_8) kc_0 ?_
  refine g_istore_n (i := 1) (lv2 := [(1, .int 0), (0, .ref 0)]) hC (dX11_forgetThePast_9) rfl (by decide) rfl ?_
  refine g_sub (lv' := [(0, .ref 0), (1, .int 0)]) [1, 0] rfl ?_
  refine wpO_bJ h (fun KL10 hKL10 h => ?_)
  refine lX11_forgetThePast_10 (K1 := KL10) hC (by omega)  (fun M_28 h => ?_) _ _ _ h
  have h := hKL10 _ h
  refine g_vreturn hC hr (dX11_forgetThePast_28) ?_
  exact wpO_s h
/-! LostByState.things()I -/
theorem dX11_things_0 : decode cX11_things 0 = .ok (.aload_n 0, 1) := by decide +kernel
theorem dX11_things_1 : decode cX11_things 1 = .ok (.getfield 26, 3) := by decide +kernel
theorem dX11_things_4 : decode cX11_things 4 = .ok (.aload_n 0, 1) := by decide +kernel
theorem dX11_things_5 : decode cX11_things 5 = .ok (.getfield 10, 3) := by decide +kernel
theorem dX11_things_8 : decode cX11_things 8 = .ok (.invokevirtual 128, 3) := by decide +kernel
theorem dX11_things_11 : decode cX11_things 11 = .ok (.istore_n 1, 1) := by decide +kernel
theorem dX11_things_12 : decode cX11_things 12 = .ok (.aload_n 0, 1) := by decide +kernel
theorem dX11_things_13 : decode cX11_things 13 = .ok (.getfield 10, 3) := by decide +kernel
theorem dX11_things_16 : decode cX11_things 16 = .ok (.invokevirtual 132, 3) := by decide +kernel
theorem dX11_things_19 : decode cX11_things 19 = .ok (.iload_n 1, 1) := by decide +kernel
theorem dX11_things_20 : decode cX11_things 20 = .ok (.ifCond .le 35, 3) := by decide +kernel
theorem dX11_things_23 : decode cX11_things 23 = .ok (.aload_n 0, 1) := by decide +kernel
theorem dX11_things_24 : decode cX11_things 24 = .ok (.getfield 33, 3) := by decide +kernel
theorem dX11_things_27 : decode cX11_things 27 = .ok (.aload_n 0, 1) := by decide +kernel
theorem dX11_things_28 : decode cX11_things 28 = .ok (.getfield 26, 3) := by decide +kernel
theorem dX11_things_31 : decode cX11_things 31 = .ok (.getfield 135, 3) := by decide +kernel
theorem dX11_things_34 : decode cX11_things 34 = .ok (.iload_n 1, 1) := by decide +kernel
theorem dX11_things_35 : decode cX11_things 35 = .ok (.invokevirtual 138, 3) := by decide +kernel
theorem dX11_things_38 : decode cX11_things 38 = .ok (.aload_n 0, 1) := by decide +kernel
theorem dX11_things_39 : decode cX11_things 39 = .ok (.getfield 26, 3) := by decide +kernel
theorem dX11_things_42 : decode cX11_things 42 = .ok (.dup, 1) := by decide +kernel
theorem dX11_things_43 : decode cX11_things 43 = .ok (.getfield 135, 3) := by decide +kernel
theorem dX11_things_46 : decode cX11_things 46 = .ok (.iload_n 1, 1) := by decide +kernel
theorem dX11_things_47 : decode cX11_things 47 = .ok (.iadd, 1) := by decide +kernel
theorem dX11_things_48 : decode cX11_things 48 = .ok (.putfield 135, 3) := by decide +kernel
theorem dX11_things_51 : decode cX11_things 51 = .ok (.aload_n 0, 1) := by decide +kernel
theorem dX11_things_52 : decode cX11_things 52 = .ok (.invokevirtual 142, 3) := by decide +kernel
theorem dX11_things_55 : decode cX11_things 55 = .ok (.iload_n 1, 1) := by decide +kernel
theorem dX11_things_56 : decode cX11_things 56 = .ok (.ireturn, 1) := by decide +kernel
def fX11_things  (M : zM) : Option (Int32 × zM) := (fX7_readThings M).bind fun (q : Int32 × zM) => zp q fun r1 M8 =>
  zlet (fX9_clear M8) fun (M16 : zM) =>
  (if r1 ≤ 0 then (
  some M16)
  else (
  (fX10_arrive 60 (M16.1 5 3) r1 M16).bind fun (M35 : zM) =>
  zlet (zSI M35 5 3 ((M35.1 5 3) + r1)) fun (M48 : zM) =>
  (fX11_forgetThePast M48).bind fun (M52 : zM) =>
  some M52) : Option zM).bind fun (M_55 : zM) =>
  some (r1, M_55)
set_option maxHeartbeats 4000000 in
theorem cX11_things_ok {E : zE} {d : Nat} (hd : 2 ≤ d)  (M : zM) {K : (Int32 × zM) → Prop} (h : wpO (fX11_things  M) K) : CMi E d yX11_things cX11_things 2 (some .int) [.ref 0] M (fun r N => K (r, N)) := by
  refine CMi.of (by decide) (Nat.le_of_ble_eq_true rfl) (fun Γ hC hr => ?_)
  have hC : Cx E Γ RX11 cX11_things 2 d := hC
  show G E Γ 2 0 [(0, .ref 0)] [] M
  unfold fX11_things at h
  refine g_aload_n (i := 0) (x := 0) hC (dX11_things_0) rfl rfl ?_
  refine g_getR (r := 5) hC flX11_26 (dX11_things_1) rfl rfl rfl ?_
  refine g_aload_n (i := 0) (x := 0) hC (dX11_things_4) rfl rfl ?_
  refine g_getR (r := 1) hC flX11_10 (dX11_things_5) rfl rfl rfl ?_
  have h := wpO_b h
  refine g_callVi ([.ref 1]) hC wvX11_128 (dX11_things_8) rfl rfl (by omega) (Nat.le_of_ble_eq_true rfl) (cX7_readThings_ok (by omega) M h) (fun r1 M8 h => ?_)
  have h := wpO_p h
  refine g_istore_n (i := 1) (lv2 := [(1, .int r1), (0, .ref 0)]) hC (dX11_things_11) rfl (by decide) rfl ?_
  refine g_aload_n (i := 0) (x := 0) hC (dX11_things_12) rfl rfl ?_
  refine g_getR (r := 1) hC flX11_10 (dX11_things_13) rfl rfl rfl ?_
  refine g_callVv ([]) hC wvX11_132 (dX11_things_16) rfl rfl (by omega) (Nat.le_of_ble_eq_true rfl) (cX9_clear_ok (by omega) M8 (K := fun r => r = fX9_clear M8) rfl) (fun N q => ?_)
  subst q
  refine g_nmM (fun M16 e_M16 => ?_)
  have h := wpO_n e_M16 h
  refine g_iload_n (i := 1) (x := r1) hC (dX11_things_19) rfl rfl ?_
  refine wpO_bJ h (fun KJ3 hKJ3 h => ?_)
  have hJ3 : ∀ (M_55 : zM), KJ3 M_55 → G E Γ 2 55 [(1, .int r1)] [] M_55 := by
    intro M_55 h
    have h := hKJ3 _ h
    refine g_iload_n (i := 1) (x := r1) hC (dX11_things_55) rfl rfl ?_
    refine g_ireturn hC hr (dX11_things_56) ?_
    exact wpO_s h
  refine g_if_le (tgt := 55) hC (dX11_things_20) (by decide) (fun c20 => ?_) (fun c20 => ?_)
  · have h := wpO_t c20 h
    refine g_sub (lv' := [(1, .int r1)]) [0] rfl ?_
    exact hJ3 _ (wpO_s h)
  · have h := wpO_f c20 h
    refine g_aload_n (i := 0) (x := 0) hC (dX11_things_23) rfl rfl ?_
    refine g_getR (r := 60) hC flX11_33 (dX11_things_24) rfl rfl rfl ?_
    refine g_aload_n (i := 0) (x := 0) hC (dX11_things_27) rfl rfl ?_
    refine g_getR (r := 5) hC flX11_26 (dX11_things_28) rfl rfl rfl ?_
    refine g_getI hC flX11_135 (dX11_things_31) rfl rfl ?_
    refine g_iload_n (i := 1) (x := r1) hC (dX11_things_34) rfl rfl ?_
    have h := wpO_b h
    refine g_callVv ([.int (M16.1 5 3), .int r1]) hC wvX11_138 (dX11_things_35) rfl rfl (by omega) (Nat.le_of_ble_eq_true rfl) (cX10_arrive_ok (by omega) 60 (M16.1 5 3) r1 M16 h) (fun M35 h => ?_)
    refine g_aload_n (i := 0) (x := 0) hC (dX11_things_38) rfl rfl ?_
    refine g_getR (r := 5) hC flX11_26 (dX11_things_39) rfl rfl rfl ?_
    refine g_dup hC (dX11_things_42) rfl ?_
    refine g_getI hC flX11_135 (dX11_things_43) rfl rfl ?_
    refine g_iload_n (i := 1) (x := r1) hC (dX11_things_46) rfl rfl ?_
    refine g_iadd hC (dX11_things_47) ?_
    refine g_putI hC fpX11_135 (dX11_things_48) rfl rfl rfl rfl ?_
    refine g_nmM (fun M48 e_M48 => ?_)
    have h := wpO_n e_M48 h
    refine g_aload_n (i := 0) (x := 0) hC (dX11_things_51) rfl rfl ?_
    have h := wpO_b h
    refine g_callVv ([]) hC wvX11_142 (dX11_things_52) rfl rfl (by omega) (Nat.le_of_ble_eq_true rfl) (cX11_forgetThePast_ok (by omega) M48 h) (fun M52 h => ?_)
    refine g_sub (lv' := [(1, .int r1)]) [0] rfl ?_
    exact hJ3 _ (wpO_s h)
/-! LostByState.deeds()I -/
theorem dX11_deeds_0 : decode cX11_deeds 0 = .ok (.aload_n 0, 1) := by decide +kernel
theorem dX11_deeds_1 : decode cX11_deeds 1 = .ok (.getfield 10, 3) := by decide +kernel
theorem dX11_deeds_4 : decode cX11_deeds 4 = .ok (.invokevirtual 145, 3) := by decide +kernel
theorem dX11_deeds_7 : decode cX11_deeds 7 = .ok (.ifCond .eq 7, 3) := by decide +kernel
theorem dX11_deeds_10 : decode cX11_deeds 10 = .ok (.iconst 0, 1) := by decide +kernel
theorem dX11_deeds_11 : decode cX11_deeds 11 = .ok (.goto 35, 3) := by decide +kernel
theorem dX11_deeds_14 : decode cX11_deeds 14 = .ok (.aload_n 0, 1) := by decide +kernel
theorem dX11_deeds_15 : decode cX11_deeds 15 = .ok (.getfield 10, 3) := by decide +kernel
theorem dX11_deeds_18 : decode cX11_deeds 18 = .ok (.bipush 48, 2) := by decide +kernel
theorem dX11_deeds_20 : decode cX11_deeds 20 = .ok (.aload_n 0, 1) := by decide +kernel
theorem dX11_deeds_21 : decode cX11_deeds 21 = .ok (.getfield 26, 3) := by decide +kernel
theorem dX11_deeds_24 : decode cX11_deeds 24 = .ok (.getfield 135, 3) := by decide +kernel
theorem dX11_deeds_27 : decode cX11_deeds 27 = .ok (.bipush 53, 2) := by decide +kernel
theorem dX11_deeds_29 : decode cX11_deeds 29 = .ok (.aload_n 0, 1) := by decide +kernel
theorem dX11_deeds_30 : decode cX11_deeds 30 = .ok (.getfield 26, 3) := by decide +kernel
theorem dX11_deeds_33 : decode cX11_deeds 33 = .ok (.getfield 148, 3) := by decide +kernel
theorem dX11_deeds_36 : decode cX11_deeds 36 = .ok (.aload_n 0, 1) := by decide +kernel
theorem dX11_deeds_37 : decode cX11_deeds 37 = .ok (.getfield 26, 3) := by decide +kernel
theorem dX11_deeds_40 : decode cX11_deeds 40 = .ok (.getfield 151, 3) := by decide +kernel
theorem dX11_deeds_43 : decode cX11_deeds 43 = .ok (.invokevirtual 154, 3) := by decide +kernel
theorem dX11_deeds_46 : decode cX11_deeds 46 = .ok (.istore_n 1, 1) := by decide +kernel
theorem dX11_deeds_47 : decode cX11_deeds 47 = .ok (.aload_n 0, 1) := by decide +kernel
theorem dX11_deeds_48 : decode cX11_deeds 48 = .ok (.getfield 10, 3) := by decide +kernel
theorem dX11_deeds_51 : decode cX11_deeds 51 = .ok (.invokevirtual 132, 3) := by decide +kernel
theorem dX11_deeds_54 : decode cX11_deeds 54 = .ok (.iload_n 1, 1) := by decide +kernel
theorem dX11_deeds_55 : decode cX11_deeds 55 = .ok (.ifCond .le 20, 3) := by decide +kernel
theorem dX11_deeds_58 : decode cX11_deeds 58 = .ok (.aload_n 0, 1) := by decide +kernel
theorem dX11_deeds_59 : decode cX11_deeds 59 = .ok (.getfield 26, 3) := by decide +kernel
theorem dX11_deeds_62 : decode cX11_deeds 62 = .ok (.dup, 1) := by decide +kernel
theorem dX11_deeds_63 : decode cX11_deeds 63 = .ok (.getfield 151, 3) := by decide +kernel
theorem dX11_deeds_66 : decode cX11_deeds 66 = .ok (.iload_n 1, 1) := by decide +kernel
theorem dX11_deeds_67 : decode cX11_deeds 67 = .ok (.iadd, 1) := by decide +kernel
theorem dX11_deeds_68 : decode cX11_deeds 68 = .ok (.putfield 151, 3) := by decide +kernel
theorem dX11_deeds_71 : decode cX11_deeds 71 = .ok (.aload_n 0, 1) := by decide +kernel
theorem dX11_deeds_72 : decode cX11_deeds 72 = .ok (.invokevirtual 142, 3) := by decide +kernel
theorem dX11_deeds_75 : decode cX11_deeds 75 = .ok (.iload_n 1, 1) := by decide +kernel
theorem dX11_deeds_76 : decode cX11_deeds 76 = .ok (.ireturn, 1) := by decide +kernel
def fX11_deeds  (M : zM) : Option (Int32 × zM) := (if (fX9_isEmpty M) = 0 then (
  (fX9_readSets 48 (M.1 5 3) 53 8 (M.1 5 4) M).bind fun (q : Int32 × zM) => zp q fun r3 M43 =>
  some (r3, M43))
  else (
  some (0, M)) : Option (Int32 × zM)).bind fun (q : Int32 × zM) => zp q fun s0_46 M_46 =>
  zlet (fX9_clear M_46) fun (M51 : zM) =>
  (if s0_46 ≤ 0 then (
  some M51)
  else (
  zlet (zSI M51 5 4 ((M51.1 5 4) + s0_46)) fun (M68 : zM) =>
  (fX11_forgetThePast M68).bind fun (M72 : zM) =>
  some M72) : Option zM).bind fun (M_75 : zM) =>
  some (s0_46, M_75)
set_option maxHeartbeats 4000000 in
theorem cX11_deeds_ok {E : zE} {d : Nat} (hd : 2 ≤ d)  (M : zM) {K : (Int32 × zM) → Prop} (h : wpO (fX11_deeds  M) K) : CMi E d yX11_deeds cX11_deeds 2 (some .int) [.ref 0] M (fun r N => K (r, N)) := by
  refine CMi.of (by decide) (Nat.le_of_ble_eq_true rfl) (fun Γ hC hr => ?_)
  have hC : Cx E Γ RX11 cX11_deeds 2 d := hC
  show G E Γ 2 0 [(0, .ref 0)] [] M
  unfold fX11_deeds at h
  refine g_aload_n (i := 0) (x := 0) hC (dX11_deeds_0) rfl rfl ?_
  refine g_getR (r := 1) hC flX11_10 (dX11_deeds_1) rfl rfl rfl ?_
  refine g_callVi ([]) hC wvX11_145 (dX11_deeds_4) rfl rfl (by omega) (Nat.le_of_ble_eq_true rfl) (cX9_isEmpty_ok (by omega) M (K := fun r => r = fX9_isEmpty M) rfl) (fun r N q => ?_)
  obtain ⟨rfl, rfl⟩ := q
  refine wpO_bJ h (fun KJ2 hKJ2 h => ?_)
  have hJ2 : ∀ (s0_46 : Int32) (M_46 : zM), KJ2 (s0_46, M_46) → G E Γ 2 46 [(0, .ref 0)] [.int s0_46] M_46 := by
    intro s0_46 M_46 h
    have h := hKJ2 _ h
    have h := wpO_p h
    refine g_istore_n (i := 1) (lv2 := [(1, .int s0_46), (0, .ref 0)]) hC (dX11_deeds_46) rfl (by decide) rfl ?_
    refine g_aload_n (i := 0) (x := 0) hC (dX11_deeds_47) rfl rfl ?_
    refine g_getR (r := 1) hC flX11_10 (dX11_deeds_48) rfl rfl rfl ?_
    refine g_callVv ([]) hC wvX11_132 (dX11_deeds_51) rfl rfl (by omega) (Nat.le_of_ble_eq_true rfl) (cX9_clear_ok (by omega) M_46 (K := fun r => r = fX9_clear M_46) rfl) (fun N q => ?_)
    subst q
    refine g_nmM (fun M51 e_M51 => ?_)
    have h := wpO_n e_M51 h
    refine g_iload_n (i := 1) (x := s0_46) hC (dX11_deeds_54) rfl rfl ?_
    refine wpO_bJ h (fun KJ5 hKJ5 h => ?_)
    have hJ5 : ∀ (M_75 : zM), KJ5 M_75 → G E Γ 2 75 [(1, .int s0_46)] [] M_75 := by
      intro M_75 h
      have h := hKJ5 _ h
      refine g_iload_n (i := 1) (x := s0_46) hC (dX11_deeds_75) rfl rfl ?_
      refine g_ireturn hC hr (dX11_deeds_76) ?_
      exact wpO_s h
    refine g_if_le (tgt := 75) hC (dX11_deeds_55) (by decide) (fun c55 => ?_) (fun c55 => ?_)
    · have h := wpO_t c55 h
      refine g_sub (lv' := [(1, .int s0_46)]) [0] rfl ?_
      exact hJ5 _ (wpO_s h)
    · have h := wpO_f c55 h
      refine g_aload_n (i := 0) (x := 0) hC (dX11_deeds_58) rfl rfl ?_
      refine g_getR (r := 5) hC flX11_26 (dX11_deeds_59) rfl rfl rfl ?_
      refine g_dup hC (dX11_deeds_62) rfl ?_
      refine g_getI hC flX11_151 (dX11_deeds_63) rfl rfl ?_
      refine g_iload_n (i := 1) (x := s0_46) hC (dX11_deeds_66) rfl rfl ?_
      refine g_iadd hC (dX11_deeds_67) ?_
      refine g_putI hC fpX11_151 (dX11_deeds_68) rfl rfl rfl rfl ?_
      refine g_nmM (fun M68 e_M68 => ?_)
      have h := wpO_n e_M68 h
      refine g_aload_n (i := 0) (x := 0) hC (dX11_deeds_71) rfl rfl ?_
      have h := wpO_b h
      refine g_callVv ([]) hC wvX11_142 (dX11_deeds_72) rfl rfl (by omega) (Nat.le_of_ble_eq_true rfl) (cX11_forgetThePast_ok (by omega) M68 h) (fun M72 h => ?_)
      refine g_sub (lv' := [(1, .int s0_46)]) [0] rfl ?_
      exact hJ5 _ (wpO_s h)
  refine g_if_eq (tgt := 14) hC (dX11_deeds_7) (by decide) (fun c7 => ?_) (fun c7 => ?_)
  · have h := wpO_t c7 h
    refine g_aload_n (i := 0) (x := 0) hC (dX11_deeds_14) rfl rfl ?_
    refine g_getR (r := 1) hC flX11_10 (dX11_deeds_15) rfl rfl rfl ?_
    refine g_bipush (v := 48) hC (dX11_deeds_18) kb_48 ?_
    refine g_aload_n (i := 0) (x := 0) hC (dX11_deeds_20) rfl rfl ?_
    refine g_getR (r := 5) hC flX11_26 (dX11_deeds_21) rfl rfl rfl ?_
    refine g_getI hC flX11_135 (dX11_deeds_24) rfl rfl ?_
    refine g_bipush (v := 53) hC (dX11_deeds_27) kb_53 ?_
    refine g_aload_n (i := 0) (x := 0) hC (dX11_deeds_29) rfl rfl ?_
    refine g_getR (r := 5) hC flX11_26 (dX11_deeds_30) rfl rfl rfl ?_
    refine g_getR (r := 8) hC flX11_148 (dX11_deeds_33) rfl rfl rfl ?_
    refine g_aload_n (i := 0) (x := 0) hC (dX11_deeds_36) rfl rfl ?_
    refine g_getR (r := 5) hC flX11_26 (dX11_deeds_37) rfl rfl rfl ?_
    refine g_getI hC flX11_151 (dX11_deeds_40) rfl rfl ?_
    have h := wpO_b h
    refine g_callVi ([.int 48, .int (M.1 5 3), .int 53, .ref 8, .int (M.1 5 4)]) hC wvX11_154 (dX11_deeds_43) rfl rfl (by omega) (Nat.le_of_ble_eq_true rfl) (cX9_readSets_ok (by omega) 48 (M.1 5 3) 53 8 (M.1 5 4) M h) (fun r3 M43 h => ?_)
    have h := wpO_p h
    exact hJ2 _ _ (wpO_s h)
  · have h := wpO_f c7 h
    refine g_iconst (v := 0) hC (dX11_deeds_10) kc_0 ?_
    refine g_goto (tgt := 46) hC (dX11_deeds_11) (by decide) ?_
    exact hJ2 _ _ (wpO_s h)
/-! LostByState.readOtherRule()I -/
theorem dX11_readOtherRule_0 : decode cX11_readOtherRule 0 = .ok (.iconst (-1), 1) := by decide +kernel
theorem dX11_readOtherRule_1 : decode cX11_readOtherRule 1 = .ok (.istore_n 1, 1) := by decide +kernel
theorem dX11_readOtherRule_2 : decode cX11_readOtherRule 2 = .ok (.aload_n 0, 1) := by decide +kernel
theorem dX11_readOtherRule_3 : decode cX11_readOtherRule 3 = .ok (.getfield 10, 3) := by decide +kernel
theorem dX11_readOtherRule_6 : decode cX11_readOtherRule 6 = .ok (.invokevirtual 145, 3) := by decide +kernel
theorem dX11_readOtherRule_9 : decode cX11_readOtherRule 9 = .ok (.ifCond .eq 13, 3) := by decide +kernel
theorem dX11_readOtherRule_12 : decode cX11_readOtherRule 12 = .ok (.aload_n 0, 1) := by decide +kernel
theorem dX11_readOtherRule_13 : decode cX11_readOtherRule 13 = .ok (.getfield 62, 3) := by decide +kernel
theorem dX11_readOtherRule_16 : decode cX11_readOtherRule 16 = .ok (.invokevirtual 413, 3) := by decide +kernel
theorem dX11_readOtherRule_19 : decode cX11_readOtherRule 19 = .ok (.goto 11, 3) := by decide +kernel
theorem dX11_readOtherRule_22 : decode cX11_readOtherRule 22 = .ok (.aload_n 0, 1) := by decide +kernel
theorem dX11_readOtherRule_23 : decode cX11_readOtherRule 23 = .ok (.getfield 70, 3) := by decide +kernel
theorem dX11_readOtherRule_26 : decode cX11_readOtherRule 26 = .ok (.invokevirtual 416, 3) := by decide +kernel
theorem dX11_readOtherRule_29 : decode cX11_readOtherRule 29 = .ok (.istore_n 1, 1) := by decide +kernel
theorem dX11_readOtherRule_30 : decode cX11_readOtherRule 30 = .ok (.aload_n 0, 1) := by decide +kernel
theorem dX11_readOtherRule_31 : decode cX11_readOtherRule 31 = .ok (.getfield 10, 3) := by decide +kernel
theorem dX11_readOtherRule_34 : decode cX11_readOtherRule 34 = .ok (.invokevirtual 132, 3) := by decide +kernel
theorem dX11_readOtherRule_37 : decode cX11_readOtherRule 37 = .ok (.iload_n 1, 1) := by decide +kernel
theorem dX11_readOtherRule_38 : decode cX11_readOtherRule 38 = .ok (.ireturn, 1) := by decide +kernel
def fX11_readOtherRule  (M : zM) : Option (Int32 × zM) := (if (fX9_isEmpty M) = 0 then (
  (fX5_readAll M).bind fun (q : Int32 × zM) => zp q fun r3 M26 =>
  some (r3, M26))
  else (
  (fX4_becomePlain 17 M).bind fun (M16 : zM) =>
  some ((-1), M16)) : Option (Int32 × zM)).bind fun (q : Int32 × zM) => zp q fun x1_30 M_30 =>
  zlet (fX9_clear M_30) fun (M34 : zM) =>
  some (x1_30, M34)
set_option maxHeartbeats 4000000 in
theorem cX11_readOtherRule_ok {E : zE} {d : Nat} (hd : 107 ≤ d)  (M : zM) {K : (Int32 × zM) → Prop} (h : wpO (fX11_readOtherRule  M) K) : CMi E d yX11_readOtherRule cX11_readOtherRule 2 (some .int) [.ref 0] M (fun r N => K (r, N)) := by
  refine CMi.of (by decide) (Nat.le_of_ble_eq_true rfl) (fun Γ hC hr => ?_)
  have hC : Cx E Γ RX11 cX11_readOtherRule 2 d := hC
  show G E Γ 2 0 [(0, .ref 0)] [] M
  unfold fX11_readOtherRule at h
  refine g_iconst (v := (-1)) hC (dX11_readOtherRule_0) kc_m1 ?_
  refine g_istore_n (i := 1) (lv2 := [(1, .int (-1)), (0, .ref 0)]) hC (dX11_readOtherRule_1) rfl (by decide) rfl ?_
  refine g_aload_n (i := 0) (x := 0) hC (dX11_readOtherRule_2) rfl rfl ?_
  refine g_getR (r := 1) hC flX11_10 (dX11_readOtherRule_3) rfl rfl rfl ?_
  refine g_callVi ([]) hC wvX11_145 (dX11_readOtherRule_6) rfl rfl (by omega) (Nat.le_of_ble_eq_true rfl) (cX9_isEmpty_ok (by omega) M (K := fun r => r = fX9_isEmpty M) rfl) (fun r N q => ?_)
  obtain ⟨rfl, rfl⟩ := q
  refine wpO_bJ h (fun KJ2 hKJ2 h => ?_)
  have hJ2 : ∀ (x1_30 : Int32) (M_30 : zM), KJ2 (x1_30, M_30) → G E Γ 2 30 [(0, .ref 0), (1, .int x1_30)] [] M_30 := by
    intro x1_30 M_30 h
    have h := hKJ2 _ h
    have h := wpO_p h
    refine g_aload_n (i := 0) (x := 0) hC (dX11_readOtherRule_30) rfl rfl ?_
    refine g_getR (r := 1) hC flX11_10 (dX11_readOtherRule_31) rfl rfl rfl ?_
    refine g_callVv ([]) hC wvX11_132 (dX11_readOtherRule_34) rfl rfl (by omega) (Nat.le_of_ble_eq_true rfl) (cX9_clear_ok (by omega) M_30 (K := fun r => r = fX9_clear M_30) rfl) (fun N q => ?_)
    subst q
    refine g_nmM (fun M34 e_M34 => ?_)
    have h := wpO_n e_M34 h
    refine g_iload_n (i := 1) (x := x1_30) hC (dX11_readOtherRule_37) rfl rfl ?_
    refine g_ireturn hC hr (dX11_readOtherRule_38) ?_
    exact wpO_s h
  refine g_if_eq (tgt := 22) hC (dX11_readOtherRule_9) (by decide) (fun c9 => ?_) (fun c9 => ?_)
  · have h := wpO_t c9 h
    refine g_aload_n (i := 0) (x := 0) hC (dX11_readOtherRule_22) rfl rfl ?_
    refine g_getR (r := 21) hC flX11_70 (dX11_readOtherRule_23) rfl rfl rfl ?_
    have h := wpO_b h
    refine g_callVi ([]) hC wvX11_416 (dX11_readOtherRule_26) rfl rfl (by omega) (Nat.le_of_ble_eq_true rfl) (cX5_readAll_ok (by omega) M h) (fun r3 M26 h => ?_)
    have h := wpO_p h
    refine g_istore_n (i := 1) (lv2 := [(1, .int r3), (0, .ref 0)]) hC (dX11_readOtherRule_29) rfl (by decide) rfl ?_
    refine g_sub (lv' := [(0, .ref 0), (1, .int r3)]) [1, 0] rfl ?_
    exact hJ2 _ _ (wpO_s h)
  · have h := wpO_f c9 h
    refine g_aload_n (i := 0) (x := 0) hC (dX11_readOtherRule_12) rfl rfl ?_
    refine g_getR (r := 17) hC flX11_62 (dX11_readOtherRule_13) rfl rfl rfl ?_
    have h := wpO_b h
    refine g_callVv ([]) hC wvX11_413 (dX11_readOtherRule_16) rfl rfl (by omega) (Nat.le_of_ble_eq_true rfl) (cX4_becomePlain_ok (by omega) 17 M h) (fun M16 h => ?_)
    refine g_goto (tgt := 30) hC (dX11_readOtherRule_19) (by decide) ?_
    refine g_sub (lv' := [(0, .ref 0), (1, .int (-1))]) [1, 0] rfl ?_
    exact hJ2 _ _ (wpO_s h)
/-! LostByState.rule()I -/
theorem dX11_rule_0 : decode cX11_rule 0 = .ok (.aload_n 0, 1) := by decide +kernel
theorem dX11_rule_1 : decode cX11_rule 1 = .ok (.invokevirtual 158, 3) := by decide +kernel
theorem dX11_rule_4 : decode cX11_rule 4 = .ok (.istore_n 1, 1) := by decide +kernel
theorem dX11_rule_5 : decode cX11_rule 5 = .ok (.iload_n 1, 1) := by decide +kernel
theorem dX11_rule_6 : decode cX11_rule 6 = .ok (.ifCond .lt 7, 3) := by decide +kernel
theorem dX11_rule_9 : decode cX11_rule 9 = .ok (.iconst (-1), 1) := by decide +kernel
theorem dX11_rule_10 : decode cX11_rule 10 = .ok (.iload_n 1, 1) := by decide +kernel
theorem dX11_rule_11 : decode cX11_rule 11 = .ok (.isub, 1) := by decide +kernel
theorem dX11_rule_12 : decode cX11_rule 12 = .ok (.ireturn, 1) := by decide +kernel
theorem dX11_rule_13 : decode cX11_rule 13 = .ok (.aload_n 0, 1) := by decide +kernel
theorem dX11_rule_14 : decode cX11_rule 14 = .ok (.getfield 58, 3) := by decide +kernel
theorem dX11_rule_17 : decode cX11_rule 17 = .ok (.aload_n 0, 1) := by decide +kernel
theorem dX11_rule_18 : decode cX11_rule 18 = .ok (.getfield 62, 3) := by decide +kernel
theorem dX11_rule_21 : decode cX11_rule 21 = .ok (.invokevirtual 162, 3) := by decide +kernel
theorem dX11_rule_24 : decode cX11_rule 24 = .ok (.iconst 0, 1) := by decide +kernel
theorem dX11_rule_25 : decode cX11_rule 25 = .ok (.ireturn, 1) := by decide +kernel
def fX11_rule  (M : zM) : Option (Int32 × zM) := (fX11_readOtherRule M).bind fun (q : Int32 × zM) => zp q fun r1 M1 =>
  if r1 < 0 then (
  (fX4_become 13 17 M1).bind fun (M21 : zM) =>
  some (0, M21))
  else (
  some ((-1) - r1, M1))
set_option maxHeartbeats 4000000 in
theorem cX11_rule_ok {E : zE} {d : Nat} (hd : 108 ≤ d)  (M : zM) {K : (Int32 × zM) → Prop} (h : wpO (fX11_rule  M) K) : CMi E d yX11_rule cX11_rule 2 (some .int) [.ref 0] M (fun r N => K (r, N)) := by
  refine CMi.of (by decide) (Nat.le_of_ble_eq_true rfl) (fun Γ hC hr => ?_)
  have hC : Cx E Γ RX11 cX11_rule 2 d := hC
  show G E Γ 2 0 [(0, .ref 0)] [] M
  unfold fX11_rule at h
  refine g_aload_n (i := 0) (x := 0) hC (dX11_rule_0) rfl rfl ?_
  have h := wpO_b h
  refine g_callVi ([]) hC wvX11_158 (dX11_rule_1) rfl rfl (by omega) (Nat.le_of_ble_eq_true rfl) (cX11_readOtherRule_ok (by omega) M h) (fun r1 M1 h => ?_)
  have h := wpO_p h
  refine g_istore_n (i := 1) (lv2 := [(1, .int r1), (0, .ref 0)]) hC (dX11_rule_4) rfl (by decide) rfl ?_
  refine g_iload_n (i := 1) (x := r1) hC (dX11_rule_5) rfl rfl ?_
  refine g_if_lt (tgt := 13) hC (dX11_rule_6) (by decide) (fun c6 => ?_) (fun c6 => ?_)
  · have h := wpO_t c6 h
    refine g_aload_n (i := 0) (x := 0) hC (dX11_rule_13) rfl rfl ?_
    refine g_getR (r := 13) hC flX11_58 (dX11_rule_14) rfl rfl rfl ?_
    refine g_aload_n (i := 0) (x := 0) hC (dX11_rule_17) rfl rfl ?_
    refine g_getR (r := 17) hC flX11_62 (dX11_rule_18) rfl rfl rfl ?_
    have h := wpO_b h
    refine g_callVv ([.ref 17]) hC wvX11_162 (dX11_rule_21) rfl rfl (by omega) (Nat.le_of_ble_eq_true rfl) (cX4_become_ok (by omega) 13 17 M1 h) (fun M21 h => ?_)
    refine g_iconst (v := 0) hC (dX11_rule_24) kc_0 ?_
    refine g_ireturn hC hr (dX11_rule_25) ?_
    exact wpO_s h
  · have h := wpO_f c6 h
    refine g_iconst (v := (-1)) hC (dX11_rule_9) kc_m1 ?_
    refine g_iload_n (i := 1) (x := r1) hC (dX11_rule_10) rfl rfl ?_
    refine g_isub hC (dX11_rule_11) ?_
    refine g_ireturn hC hr (dX11_rule_12) ?_
    exact wpO_s h
/-! LostByState.set(II)I -/
theorem dX11_set_0 : decode cX11_set 0 = .ok (.iload_n 1, 1) := by decide +kernel
theorem dX11_set_1 : decode cX11_set 1 = .ok (.ifCond .ne 29, 3) := by decide +kernel
theorem dX11_set_4 : decode cX11_set 4 = .ok (.iload_n 2, 1) := by decide +kernel
theorem dX11_set_5 : decode cX11_set 5 = .ok (.iconst 1, 1) := by decide +kernel
theorem dX11_set_6 : decode cX11_set 6 = .ok (.if_icmp .lt 24, 3) := by decide +kernel
theorem dX11_set_9 : decode cX11_set 9 = .ok (.iload_n 2, 1) := by decide +kernel
theorem dX11_set_10 : decode cX11_set 10 = .ok (.bipush 99, 2) := by decide +kernel
theorem dX11_set_12 : decode cX11_set 12 = .ok (.if_icmp .gt 18, 3) := by decide +kernel
theorem dX11_set_15 : decode cX11_set 15 = .ok (.aload_n 0, 1) := by decide +kernel
theorem dX11_set_16 : decode cX11_set 16 = .ok (.getfield 110, 3) := by decide +kernel
theorem dX11_set_19 : decode cX11_set 19 = .ok (.istore_n 3, 1) := by decide +kernel
theorem dX11_set_20 : decode cX11_set 20 = .ok (.aload_n 0, 1) := by decide +kernel
theorem dX11_set_21 : decode cX11_set 21 = .ok (.iload_n 2, 1) := by decide +kernel
theorem dX11_set_22 : decode cX11_set 22 = .ok (.putfield 110, 3) := by decide +kernel
theorem dX11_set_25 : decode cX11_set 25 = .ok (.bipush 100, 2) := by decide +kernel
theorem dX11_set_27 : decode cX11_set 27 = .ok (.iload_n 3, 1) := by decide +kernel
theorem dX11_set_28 : decode cX11_set 28 = .ok (.iadd, 1) := by decide +kernel
theorem dX11_set_29 : decode cX11_set 29 = .ok (.ireturn, 1) := by decide +kernel
theorem dX11_set_30 : decode cX11_set 30 = .ok (.iload_n 1, 1) := by decide +kernel
theorem dX11_set_31 : decode cX11_set 31 = .ok (.iconst 1, 1) := by decide +kernel
theorem dX11_set_32 : decode cX11_set 32 = .ok (.if_icmp .ne 30, 3) := by decide +kernel
theorem dX11_set_35 : decode cX11_set 35 = .ok (.iload_n 2, 1) := by decide +kernel
theorem dX11_set_36 : decode cX11_set 36 = .ok (.bipush (-99), 2) := by decide +kernel
theorem dX11_set_38 : decode cX11_set 38 = .ok (.if_icmp .lt 24, 3) := by decide +kernel
theorem dX11_set_41 : decode cX11_set 41 = .ok (.iload_n 2, 1) := by decide +kernel
theorem dX11_set_42 : decode cX11_set 42 = .ok (.bipush 99, 2) := by decide +kernel
theorem dX11_set_44 : decode cX11_set 44 = .ok (.if_icmp .gt 18, 3) := by decide +kernel
theorem dX11_set_47 : decode cX11_set 47 = .ok (.aload_n 0, 1) := by decide +kernel
theorem dX11_set_48 : decode cX11_set 48 = .ok (.getfield 113, 3) := by decide +kernel
theorem dX11_set_51 : decode cX11_set 51 = .ok (.istore_n 3, 1) := by decide +kernel
theorem dX11_set_52 : decode cX11_set 52 = .ok (.aload_n 0, 1) := by decide +kernel
theorem dX11_set_53 : decode cX11_set 53 = .ok (.iload_n 2, 1) := by decide +kernel
theorem dX11_set_54 : decode cX11_set 54 = .ok (.putfield 113, 3) := by decide +kernel
theorem dX11_set_57 : decode cX11_set 57 = .ok (.bipush 100, 2) := by decide +kernel
theorem dX11_set_59 : decode cX11_set 59 = .ok (.iload_n 3, 1) := by decide +kernel
theorem dX11_set_60 : decode cX11_set 60 = .ok (.iadd, 1) := by decide +kernel
theorem dX11_set_61 : decode cX11_set 61 = .ok (.ireturn, 1) := by decide +kernel
theorem dX11_set_62 : decode cX11_set 62 = .ok (.iconst (-1), 1) := by decide +kernel
theorem dX11_set_63 : decode cX11_set 63 = .ok (.ireturn, 1) := by decide +kernel
def fX11_set (x1 : Int32) (x2 : Int32) (M : zM) : Int32 × zM := zj (fun (_ : Unit) =>
  if x1 = 1 then (
  if x2 < (-99) then (
  ((-1), M))
  else (
  if 99 < x2 then (
  ((-1), M))
  else (
  zlet (M.1 0 18) fun (x3_51 : Int32) =>
  zlet (zSI M 0 18 x2) fun (M54 : zM) =>
  (100 + x3_51, M54))))
  else (
  ((-1), M)))
  fun J1 =>
  if x1 = 0 then (
  if x2 < 1 then (
  J1 ())
  else (
  if 99 < x2 then (
  J1 ())
  else (
  zlet (M.1 0 17) fun (x3_19 : Int32) =>
  zlet (zSI M 0 17 x2) fun (M22 : zM) =>
  (100 + x3_19, M22))))
  else (
  J1 ())
set_option maxHeartbeats 4000000 in
theorem cX11_set_ok {E : zE} {d : Nat} (hd : 0 ≤ d) (x1 : Int32) (x2 : Int32) (M : zM) {K : (Int32 × zM) → Prop} (h : wpI (fX11_set x1 x2 M) K) : CMi E d yX11_set cX11_set 4 (some .int) [.ref 0, .int x1, .int x2] M (fun r N => K (r, N)) := by
  refine CMi.of (by decide) (Nat.le_of_ble_eq_true rfl) (fun Γ hC hr => ?_)
  have hC : Cx E Γ RX11 cX11_set 4 d := hC
  show G E Γ 4 0 [(0, .ref 0), (1, .int x1), (2, .int x2)] [] M
  unfold fX11_set at h
  refine g_iload_n (i := 1) (x := x1) hC (dX11_set_0) rfl rfl ?_
  refine wpI_j h (fun J1 hkJ1 h => ?_)
  have hJ1 : ∀ (_ : Unit), wpI (J1 ()) K → G E Γ 4 30 [(0, .ref 0), (1, .int x1), (2, .int x2)] [] M := by
    intro _ h
    have h := hkJ1 _ h
    refine g_iload_n (i := 1) (x := x1) hC (dX11_set_30) rfl rfl ?_
    refine g_iconst (v := 1) hC (dX11_set_31) kc_1 ?_
    refine g_icmp_ne (tgt := 62) hC (dX11_set_32) (by decide) (fun c32 => ?_) (fun c32 => ?_)
    · have h := wpI_f c32 h
      refine g_iconst (v := (-1)) hC (dX11_set_62) kc_m1 ?_
      refine g_ireturn hC hr (dX11_set_63) ?_
      exact wpI_s h
    · have h := wpI_t c32 h
      refine g_iload_n (i := 2) (x := x2) hC (dX11_set_35) rfl rfl ?_
      refine g_bipush (v := (-99)) hC (dX11_set_36) kb_m99 ?_
      refine g_icmp_lt (tgt := 62) hC (dX11_set_38) (by decide) (fun c38 => ?_) (fun c38 => ?_)
      · have h := wpI_t c38 h
        refine g_iconst (v := (-1)) hC (dX11_set_62) kc_m1 ?_
        refine g_ireturn hC hr (dX11_set_63) ?_
        exact wpI_s h
      · have h := wpI_f c38 h
        refine g_iload_n (i := 2) (x := x2) hC (dX11_set_41) rfl rfl ?_
        refine g_bipush (v := 99) hC (dX11_set_42) kb_99 ?_
        refine g_icmp_gt (tgt := 62) hC (dX11_set_44) (by decide) (fun c44 => ?_) (fun c44 => ?_)
        · have h := wpI_t c44 h
          refine g_iconst (v := (-1)) hC (dX11_set_62) kc_m1 ?_
          refine g_ireturn hC hr (dX11_set_63) ?_
          exact wpI_s h
        · have h := wpI_f c44 h
          refine g_aload_n (i := 0) (x := 0) hC (dX11_set_47) rfl rfl ?_
          refine g_getI hC flX11_113 (dX11_set_48) rfl rfl ?_
          refine g_nmi (fun x3_51 e_x3_51 => ?_)
          have h := wpI_n e_x3_51 h
          refine g_istore_n (i := 3) (lv2 := [(3, .int x3_51), (0, .ref 0), (1, .int x1), (2, .int x2)]) hC (dX11_set_51) rfl (by decide) rfl ?_
          refine g_aload_n (i := 0) (x := 0) hC (dX11_set_52) rfl rfl ?_
          refine g_iload_n (i := 2) (x := x2) hC (dX11_set_53) rfl rfl ?_
          refine g_putI hC fpX11_113 (dX11_set_54) rfl rfl rfl rfl ?_
          refine g_nmM (fun M54 e_M54 => ?_)
          have h := wpI_n e_M54 h
          refine g_bipush (v := 100) hC (dX11_set_57) kb_100 ?_
          refine g_iload_n (i := 3) (x := x3_51) hC (dX11_set_59) rfl rfl ?_
          refine g_iadd hC (dX11_set_60) ?_
          refine g_ireturn hC hr (dX11_set_61) ?_
          exact wpI_s h
  refine g_if_ne (tgt := 30) hC (dX11_set_1) (by decide) (fun c1 => ?_) (fun c1 => ?_)
  · have h := wpI_f c1 h
    exact hJ1 () h
  · have h := wpI_t c1 h
    refine g_iload_n (i := 2) (x := x2) hC (dX11_set_4) rfl rfl ?_
    refine g_iconst (v := 1) hC (dX11_set_5) kc_1 ?_
    refine g_icmp_lt (tgt := 30) hC (dX11_set_6) (by decide) (fun c6 => ?_) (fun c6 => ?_)
    · have h := wpI_t c6 h
      exact hJ1 () h
    · have h := wpI_f c6 h
      refine g_iload_n (i := 2) (x := x2) hC (dX11_set_9) rfl rfl ?_
      refine g_bipush (v := 99) hC (dX11_set_10) kb_99 ?_
      refine g_icmp_gt (tgt := 30) hC (dX11_set_12) (by decide) (fun c12 => ?_) (fun c12 => ?_)
      · have h := wpI_t c12 h
        exact hJ1 () h
      · have h := wpI_f c12 h
        refine g_aload_n (i := 0) (x := 0) hC (dX11_set_15) rfl rfl ?_
        refine g_getI hC flX11_110 (dX11_set_16) rfl rfl ?_
        refine g_nmi (fun x3_19 e_x3_19 => ?_)
        have h := wpI_n e_x3_19 h
        refine g_istore_n (i := 3) (lv2 := [(3, .int x3_19), (0, .ref 0), (1, .int x1), (2, .int x2)]) hC (dX11_set_19) rfl (by decide) rfl ?_
        refine g_aload_n (i := 0) (x := 0) hC (dX11_set_20) rfl rfl ?_
        refine g_iload_n (i := 2) (x := x2) hC (dX11_set_21) rfl rfl ?_
        refine g_putI hC fpX11_110 (dX11_set_22) rfl rfl rfl rfl ?_
        refine g_nmM (fun M22 e_M22 => ?_)
        have h := wpI_n e_M22 h
        refine g_bipush (v := 100) hC (dX11_set_25) kb_100 ?_
        refine g_iload_n (i := 3) (x := x3_19) hC (dX11_set_27) rfl rfl ?_
        refine g_iadd hC (dX11_set_28) ?_
        refine g_ireturn hC hr (dX11_set_29) ?_
        exact wpI_s h
/-! LostByState.putBetween(III)I -/
theorem dX11_putBetween_0 : decode cX11_putBetween 0 = .ok (.iload_n 1, 1) := by decide +kernel
theorem dX11_putBetween_1 : decode cX11_putBetween 1 = .ok (.iload_n 2, 1) := by decide +kernel
theorem dX11_putBetween_2 : decode cX11_putBetween 2 = .ok (.iload_n 0, 1) := by decide +kernel
theorem dX11_putBetween_3 : decode cX11_putBetween 3 = .ok (.invokestatic 410, 3) := by decide +kernel
theorem dX11_putBetween_6 : decode cX11_putBetween 6 = .ok (.invokestatic 346, 3) := by decide +kernel
theorem dX11_putBetween_9 : decode cX11_putBetween 9 = .ok (.ireturn, 1) := by decide +kernel
def fX11_putBetween (x0 : Int32) (x1 : Int32) (x2 : Int32) : Int32 := (zmax x1 (zmin x2 x0))
set_option maxHeartbeats 4000000 in
theorem cX11_putBetween_ok {E : zE} {d : Nat} (hd : 1 ≤ d) (x0 : Int32) (x1 : Int32) (x2 : Int32) (M : zM) {K : Int32 → Prop} (h : wpI (fX11_putBetween x0 x1 x2) K) : CMi E d yX11_putBetween cX11_putBetween 3 (some .int) [.int x0, .int x1, .int x2] M (fun r N => M = N ∧ K r) := by
  refine CMi.of (by decide) (Nat.le_of_ble_eq_true rfl) (fun Γ hC hr => ?_)
  have hC : Cx E Γ RX11 cX11_putBetween 3 d := hC
  show G E Γ 3 0 [(0, .int x0), (1, .int x1), (2, .int x2)] [] M
  unfold fX11_putBetween at h
  refine g_iload_n (i := 1) (x := x1) hC (dX11_putBetween_0) rfl rfl ?_
  refine g_iload_n (i := 2) (x := x2) hC (dX11_putBetween_1) rfl rfl ?_
  refine g_iload_n (i := 0) (x := x0) hC (dX11_putBetween_2) rfl rfl ?_
  refine g_min hC wmX11_410 (dX11_putBetween_3) (by omega) (Nat.le_of_ble_eq_true rfl) ?_
  refine g_max hC wmX11_346 (dX11_putBetween_6) (by omega) (Nat.le_of_ble_eq_true rfl) ?_
  refine g_ireturn hC hr (dX11_putBetween_9) ?_
  exact ⟨rfl, wpI_s h⟩
/-! LostByState.sheetEntry(II)I -/
theorem dX11_sheetEntry_0 : decode cX11_sheetEntry 0 = .ok (.iload_n 0, 1) := by decide +kernel
theorem dX11_sheetEntry_1 : decode cX11_sheetEntry 1 = .ok (.ifCond .ne 8, 3) := by decide +kernel
theorem dX11_sheetEntry_4 : decode cX11_sheetEntry 4 = .ok (.iload_n 1, 1) := by decide +kernel
theorem dX11_sheetEntry_5 : decode cX11_sheetEntry 5 = .ok (.i2b, 1) := by decide +kernel
theorem dX11_sheetEntry_6 : decode cX11_sheetEntry 6 = .ok (.goto 14, 3) := by decide +kernel
theorem dX11_sheetEntry_9 : decode cX11_sheetEntry 9 = .ok (.iload_n 0, 1) := by decide +kernel
theorem dX11_sheetEntry_10 : decode cX11_sheetEntry 10 = .ok (.iconst 1, 1) := by decide +kernel
theorem dX11_sheetEntry_11 : decode cX11_sheetEntry 11 = .ok (.if_icmp .ne 8, 3) := by decide +kernel
theorem dX11_sheetEntry_14 : decode cX11_sheetEntry 14 = .ok (.iload_n 1, 1) := by decide +kernel
theorem dX11_sheetEntry_15 : decode cX11_sheetEntry 15 = .ok (.i2s, 1) := by decide +kernel
theorem dX11_sheetEntry_16 : decode cX11_sheetEntry 16 = .ok (.goto 4, 3) := by decide +kernel
theorem dX11_sheetEntry_19 : decode cX11_sheetEntry 19 = .ok (.iload_n 1, 1) := by decide +kernel
theorem dX11_sheetEntry_20 : decode cX11_sheetEntry 20 = .ok (.istore_n 2, 1) := by decide +kernel
theorem dX11_sheetEntry_21 : decode cX11_sheetEntry 21 = .ok (.iload_n 2, 1) := by decide +kernel
theorem dX11_sheetEntry_22 : decode cX11_sheetEntry 22 = .ok (.iconst 1, 1) := by decide +kernel
theorem dX11_sheetEntry_23 : decode cX11_sheetEntry 23 = .ok (.bipush 9, 2) := by decide +kernel
theorem dX11_sheetEntry_25 : decode cX11_sheetEntry 25 = .ok (.invokestatic 301, 3) := by decide +kernel
theorem dX11_sheetEntry_28 : decode cX11_sheetEntry 28 = .ok (.ireturn, 1) := by decide +kernel
def fX11_sheetEntry (x0 : Int32) (x1 : Int32) : Int32 := zlet (if x0 = 0 then (
  x1.toInt8.toInt32)
  else (
  if x0 = 1 then (
  x1.toInt16.toInt32)
  else (
  x1))) fun (s0_20 : Int32) =>
  (fX11_putBetween s0_20 1 9)
set_option maxHeartbeats 4000000 in
theorem cX11_sheetEntry_ok {E : zE} {d : Nat} (hd : 2 ≤ d) (x0 : Int32) (x1 : Int32) (M : zM) {K : Int32 → Prop} (h : wpI (fX11_sheetEntry x0 x1) K) : CMi E d yX11_sheetEntry cX11_sheetEntry 3 (some .int) [.int x0, .int x1] M (fun r N => M = N ∧ K r) := by
  refine CMi.of (by decide) (Nat.le_of_ble_eq_true rfl) (fun Γ hC hr => ?_)
  have hC : Cx E Γ RX11 cX11_sheetEntry 3 d := hC
  show G E Γ 3 0 [(0, .int x0), (1, .int x1)] [] M
  unfold fX11_sheetEntry at h
  refine g_iload_n (i := 0) (x := x0) hC (dX11_sheetEntry_0) rfl rfl ?_
  obtain ⟨s0_20, e_s0_20, h⟩ := wpI_l h
  have hJ1 : G E Γ 3 20 [] [.int s0_20] M := by
    refine g_istore_n (i := 2) (lv2 := [(2, .int s0_20)]) hC (dX11_sheetEntry_20) rfl (by decide) rfl ?_
    refine g_iload_n (i := 2) (x := s0_20) hC (dX11_sheetEntry_21) rfl rfl ?_
    refine g_iconst (v := 1) hC (dX11_sheetEntry_22) kc_1 ?_
    refine g_bipush (v := 9) hC (dX11_sheetEntry_23) kb_9 ?_
    refine g_callSi ([.int s0_20, .int 1, .int 9]) hC wsX11_301 (dX11_sheetEntry_25) rfl (by omega) (Nat.le_of_ble_eq_true rfl) (cX11_putBetween_ok (by omega) s0_20 1 9 M (K := fun r => r = fX11_putBetween s0_20 1 9) rfl) (fun r N q => ?_)
    obtain ⟨rfl, rfl⟩ := q
    refine g_ireturn hC hr (dX11_sheetEntry_28) ?_
    exact ⟨rfl, wpI_s h⟩
  refine g_if_ne (tgt := 9) hC (dX11_sheetEntry_1) (by decide) (fun c1 => ?_) (fun c1 => ?_)
  · rw [if_neg c1] at e_s0_20
    refine g_iload_n (i := 0) (x := x0) hC (dX11_sheetEntry_9) rfl rfl ?_
    refine g_iconst (v := 1) hC (dX11_sheetEntry_10) kc_1 ?_
    refine g_icmp_ne (tgt := 19) hC (dX11_sheetEntry_11) (by decide) (fun c11 => ?_) (fun c11 => ?_)
    · rw [if_neg c11] at e_s0_20
      refine g_iload_n (i := 1) (x := x1) hC (dX11_sheetEntry_19) rfl rfl ?_
      refine g_sub (lv' := []) [] rfl ?_
      subst e_s0_20
      exact hJ1
    · rw [if_pos c11] at e_s0_20
      refine g_iload_n (i := 1) (x := x1) hC (dX11_sheetEntry_14) rfl rfl ?_
      refine g_i2s hC (dX11_sheetEntry_15) ?_
      refine g_goto (tgt := 20) hC (dX11_sheetEntry_16) (by decide) ?_
      refine g_sub (lv' := []) [] rfl ?_
      subst e_s0_20
      exact hJ1
  · rw [if_pos c1] at e_s0_20
    refine g_iload_n (i := 1) (x := x1) hC (dX11_sheetEntry_4) rfl rfl ?_
    refine g_i2b hC (dX11_sheetEntry_5) ?_
    refine g_goto (tgt := 20) hC (dX11_sheetEntry_6) (by decide) ?_
    refine g_sub (lv' := []) [] rfl ?_
    subst e_s0_20
    exact hJ1
/-! LostByState.sheet(IIII)I -/
theorem dX11_sheet_0 : decode cX11_sheet 0 = .ok (.iload_n 1, 1) := by decide +kernel
theorem dX11_sheet_1 : decode cX11_sheet 1 = .ok (.ifCond .lt 14, 3) := by decide +kernel
theorem dX11_sheet_4 : decode cX11_sheet 4 = .ok (.iload_n 1, 1) := by decide +kernel
theorem dX11_sheet_5 : decode cX11_sheet 5 = .ok (.iconst 3, 1) := by decide +kernel
theorem dX11_sheet_6 : decode cX11_sheet 6 = .ok (.if_icmp .gt 9, 3) := by decide +kernel
theorem dX11_sheet_9 : decode cX11_sheet 9 = .ok (.iload_n 2, 1) := by decide +kernel
theorem dX11_sheet_10 : decode cX11_sheet 10 = .ok (.bipush 8, 2) := by decide +kernel
theorem dX11_sheet_12 : decode cX11_sheet 12 = .ok (.if_icmp .le 5, 3) := by decide +kernel
theorem dX11_sheet_15 : decode cX11_sheet 15 = .ok (.iconst (-1), 1) := by decide +kernel
theorem dX11_sheet_16 : decode cX11_sheet 16 = .ok (.ireturn, 1) := by decide +kernel
theorem dX11_sheet_17 : decode cX11_sheet 17 = .ok (.iload_n 1, 1) := by decide +kernel
theorem dX11_sheet_18 : decode cX11_sheet 18 = .ok (.iconst 3, 1) := by decide +kernel
theorem dX11_sheet_19 : decode cX11_sheet 19 = .ok (.if_icmp .ne 7, 3) := by decide +kernel
theorem dX11_sheet_22 : decode cX11_sheet 22 = .ok (.iconst 1, 1) := by decide +kernel
theorem dX11_sheet_23 : decode cX11_sheet 23 = .ok (.goto 4, 3) := by decide +kernel
theorem dX11_sheet_26 : decode cX11_sheet 26 = .ok (.iconst 0, 1) := by decide +kernel
theorem dX11_sheet_27 : decode cX11_sheet 27 = .ok (.istore 5, 2) := by decide +kernel
theorem dX11_sheet_29 : decode cX11_sheet 29 = .ok (.iload 5, 2) := by decide +kernel
theorem dX11_sheet_31 : decode cX11_sheet 31 = .ok (.ifCond .ne 10, 3) := by decide +kernel
theorem dX11_sheet_34 : decode cX11_sheet 34 = .ok (.iload_n 2, 1) := by decide +kernel
theorem dX11_sheet_35 : decode cX11_sheet 35 = .ok (.ifCond .ge 6, 3) := by decide +kernel
theorem dX11_sheet_38 : decode cX11_sheet 38 = .ok (.bipush (-2), 2) := by decide +kernel
theorem dX11_sheet_40 : decode cX11_sheet 40 = .ok (.ireturn, 1) := by decide +kernel
theorem dX11_sheet_41 : decode cX11_sheet 41 = .ok (.iload 5, 2) := by decide +kernel
theorem dX11_sheet_43 : decode cX11_sheet 43 = .ok (.ifCond .eq 7, 3) := by decide +kernel
theorem dX11_sheet_46 : decode cX11_sheet 46 = .ok (.iconst 0, 1) := by decide +kernel
theorem dX11_sheet_47 : decode cX11_sheet 47 = .ok (.goto 4, 3) := by decide +kernel
theorem dX11_sheet_50 : decode cX11_sheet 50 = .ok (.iload_n 2, 1) := by decide +kernel
theorem dX11_sheet_51 : decode cX11_sheet 51 = .ok (.istore 6, 2) := by decide +kernel
theorem dX11_sheet_53 : decode cX11_sheet 53 = .ok (.iconst 0, 1) := by decide +kernel
theorem dX11_sheet_54 : decode cX11_sheet 54 = .ok (.istore 7, 2) := by decide +kernel
theorem dX11_sheet_56 : decode cX11_sheet 56 = .ok (.iconst 0, 1) := by decide +kernel
theorem dX11_sheet_57 : decode cX11_sheet 57 = .ok (.istore 8, 2) := by decide +kernel
theorem dX11_sheet_59 : decode cX11_sheet 59 = .ok (.iload 8, 2) := by decide +kernel
theorem dX11_sheet_61 : decode cX11_sheet 61 = .ok (.aload_n 0, 1) := by decide +kernel
theorem dX11_sheet_62 : decode cX11_sheet 62 = .ok (.getfield 26, 3) := by decide +kernel
theorem dX11_sheet_65 : decode cX11_sheet 65 = .ok (.getfield 135, 3) := by decide +kernel
theorem dX11_sheet_68 : decode cX11_sheet 68 = .ok (.if_icmp .ge 52, 3) := by decide +kernel
theorem dX11_sheet_71 : decode cX11_sheet 71 = .ok (.iload 8, 2) := by decide +kernel
theorem dX11_sheet_73 : decode cX11_sheet 73 = .ok (.iload 6, 2) := by decide +kernel
theorem dX11_sheet_75 : decode cX11_sheet 75 = .ok (.if_icmp .ge 17, 3) := by decide +kernel
theorem dX11_sheet_78 : decode cX11_sheet 78 = .ok (.iload_n 1, 1) := by decide +kernel
theorem dX11_sheet_79 : decode cX11_sheet 79 = .ok (.iload_n 3, 1) := by decide +kernel
theorem dX11_sheet_80 : decode cX11_sheet 80 = .ok (.iload 8, 2) := by decide +kernel
theorem dX11_sheet_82 : decode cX11_sheet 82 = .ok (.iload 4, 2) := by decide +kernel
theorem dX11_sheet_84 : decode cX11_sheet 84 = .ok (.imul, 1) := by decide +kernel
theorem dX11_sheet_85 : decode cX11_sheet 85 = .ok (.iadd, 1) := by decide +kernel
theorem dX11_sheet_86 : decode cX11_sheet 86 = .ok (.invokestatic 209, 3) := by decide +kernel
theorem dX11_sheet_89 : decode cX11_sheet 89 = .ok (.goto 4, 3) := by decide +kernel
theorem dX11_sheet_92 : decode cX11_sheet 92 = .ok (.iconst 1, 1) := by decide +kernel
theorem dX11_sheet_93 : decode cX11_sheet 93 = .ok (.istore 9, 2) := by decide +kernel
theorem dX11_sheet_95 : decode cX11_sheet 95 = .ok (.aload_n 0, 1) := by decide +kernel
theorem dX11_sheet_96 : decode cX11_sheet 96 = .ok (.getfield 26, 3) := by decide +kernel
theorem dX11_sheet_99 : decode cX11_sheet 99 = .ok (.getfield 179, 3) := by decide +kernel
theorem dX11_sheet_102 : decode cX11_sheet 102 = .ok (.iload 8, 2) := by decide +kernel
theorem dX11_sheet_104 : decode cX11_sheet 104 = .ok (.iload 9, 2) := by decide +kernel
theorem dX11_sheet_106 : decode cX11_sheet 106 = .ok (.iastore, 1) := by decide +kernel
theorem dX11_sheet_107 : decode cX11_sheet 107 = .ok (.iload 7, 2) := by decide +kernel
theorem dX11_sheet_109 : decode cX11_sheet 109 = .ok (.iload 9, 2) := by decide +kernel
theorem dX11_sheet_111 : decode cX11_sheet 111 = .ok (.iadd, 1) := by decide +kernel
theorem dX11_sheet_112 : decode cX11_sheet 112 = .ok (.istore 7, 2) := by decide +kernel
theorem dX11_sheet_114 : decode cX11_sheet 114 = .ok (.iinc 8 1, 3) := by decide +kernel
theorem dX11_sheet_117 : decode cX11_sheet 117 = .ok (.goto (-58), 3) := by decide +kernel
theorem dX11_sheet_120 : decode cX11_sheet 120 = .ok (.iload 5, 2) := by decide +kernel
theorem dX11_sheet_122 : decode cX11_sheet 122 = .ok (.ifCond .eq 8, 3) := by decide +kernel
theorem dX11_sheet_125 : decode cX11_sheet 125 = .ok (.bipush (-3), 2) := by decide +kernel
theorem dX11_sheet_127 : decode cX11_sheet 127 = .ok (.goto 5, 3) := by decide +kernel
theorem dX11_sheet_130 : decode cX11_sheet 130 = .ok (.iload 7, 2) := by decide +kernel
theorem dX11_sheet_132 : decode cX11_sheet 132 = .ok (.ireturn, 1) := by decide +kernel
def fX11_sheet_L59 (x1 : Int32) (x3 : Int32) (x4 : Int32) (x5 : Int32) (x6 : Int32) : Nat → Int32 → Int32 → zM → Option (Int32 × zM)
  | 0, _, _, _ => none
  | n + 1, x7, x8, M => if (M.1 5 3) ≤ x8 then (
    some (x7, M))
    else (
    zlet (if x6 ≤ x8 then (
    1)
    else (
    (fX11_sheetEntry x1 (x3 + (x8 * x4))))) fun (s0_93 : Int32) =>
    if zin x8 8 then (
    zlet (zSI M 7 x8.toNatClampNeg s0_93) fun (M106 : zM) =>
    zlet (x7 + s0_93) fun (x7_112 : Int32) =>
    fX11_sheet_L59 x1 x3 x4 x5 x6 n x7_112 (x8 + 1) M106) else none)
def fX11_sheet (x1 : Int32) (x2 : Int32) (x3 : Int32) (x4 : Int32) (M : zM) : Option (Int32 × zM) := if x1 < 0 then (
  some ((-1), M))
  else (
  if 3 < x1 then (
  some ((-1), M))
  else (
  if x2 ≤ 8 then (
  zlet (if x1 = 3 then (
  1)
  else (
  0)) fun (s0_27 : Int32) =>
  zj (fun (_ : Unit) =>
  zlet (if s0_27 = 0 then (
  x2)
  else (
  0)) fun (s0_51 : Int32) =>
  (fX11_sheet_L59 x1 x3 x4 s0_27 s0_51 4000 0 0 M).bind fun (q : Int32 × zM) => zp q fun x7_120 M_120 =>
  if s0_27 = 0 then (
  some (x7_120, M_120))
  else (
  some ((-3), M_120)))
  fun J2 =>
  if s0_27 = 0 then (
  if 0 ≤ x2 then (
  J2 ())
  else (
  some ((-2), M)))
  else (
  J2 ()))
  else (
  some ((-1), M))))
set_option maxHeartbeats 4000000 in
theorem lX11_sheet_59 {E : zE} {Γ : zT} {d : Nat} {K1 : (Int32 × zM) → Prop} (hC : Cx E Γ RX11 cX11_sheet 10 d) (hd : 3 ≤ d) (x1 : Int32) (x3 : Int32) (x4 : Int32) (x5 : Int32) (x6 : Int32) (hx : ∀ (x7_120 : Int32) (M_120 : zM), K1 (x7_120, M_120) → G E Γ 10 120 [(5, .int x5), (7, .int x7_120)] [] M_120) :
    ∀ (n : Nat) (x7 : Int32) (x8 : Int32) (M : zM), wpO (fX11_sheet_L59 x1 x3 x4 x5 x6 n x7 x8 M) K1 → G E Γ 10 59 [(0, .ref 0), (1, .int x1), (3, .int x3), (4, .int x4), (5, .int x5), (6, .int x6), (7, .int x7), (8, .int x8)] [] M := by
  intro n
  induction n with
  | zero =>
    intro x7 x8 M h
    exact (wpO_0 h).elim
  | succ n ih =>
    intro x7 x8 M h
    rw [fX11_sheet_L59.eq_2] at h
    refine g_iload (i := 8) (x := x8) hC (dX11_sheet_59) rfl ?_
    refine g_aload_n (i := 0) (x := 0) hC (dX11_sheet_61) rfl rfl ?_
    refine g_getR (r := 5) hC flX11_26 (dX11_sheet_62) rfl rfl rfl ?_
    refine g_getI hC flX11_135 (dX11_sheet_65) rfl rfl ?_
    refine g_icmp_ge (tgt := 120) hC (dX11_sheet_68) (by decide) (fun c68 => ?_) (fun c68 => ?_)
    · have h := wpO_t c68 h
      refine g_sub (lv' := [(5, .int x5), (7, .int x7)]) [4, 6] rfl ?_
      exact hx _ _ (wpO_s h)
    · have h := wpO_f c68 h
      refine g_iload (i := 8) (x := x8) hC (dX11_sheet_71) rfl ?_
      refine g_iload (i := 6) (x := x6) hC (dX11_sheet_73) rfl ?_
      obtain ⟨s0_93, e_s0_93, h⟩ := wpO_l h
      have hJ4 : G E Γ 10 93 [(0, .ref 0), (1, .int x1), (3, .int x3), (4, .int x4), (5, .int x5), (6, .int x6), (7, .int x7), (8, .int x8)] [.int s0_93] M := by
        refine g_istore (i := 9) (lv2 := [(9, .int s0_93), (0, .ref 0), (1, .int x1), (3, .int x3), (4, .int x4), (5, .int x5), (6, .int x6), (7, .int x7), (8, .int x8)]) hC (dX11_sheet_93) (by decide) rfl ?_
        refine g_aload_n (i := 0) (x := 0) hC (dX11_sheet_95) rfl rfl ?_
        refine g_getR (r := 5) hC flX11_26 (dX11_sheet_96) rfl rfl rfl ?_
        refine g_getR (r := 7) hC flX11_179 (dX11_sheet_99) rfl rfl rfl ?_
        refine g_iload (i := 8) (x := x8) hC (dX11_sheet_102) rfl ?_
        refine g_iload (i := 9) (x := s0_93) hC (dX11_sheet_104) rfl ?_
        obtain ⟨q6, h⟩ := wpO_g h
        refine g_iastore (n := 8) hC (dX11_sheet_106) rfl q6 ?_
        refine g_nmM (fun M106 e_M106 => ?_)
        have h := wpO_n e_M106 h
        refine g_iload (i := 7) (x := x7) hC (dX11_sheet_107) rfl ?_
        refine g_iload (i := 9) (x := s0_93) hC (dX11_sheet_109) rfl ?_
        refine g_iadd hC (dX11_sheet_111) ?_
        refine g_nmi (fun x7_112 e_x7_112 => ?_)
        have h := wpO_n e_x7_112 h
        refine g_istore (i := 7) (lv2 := [(7, .int x7_112), (9, .int s0_93), (0, .ref 0), (1, .int x1), (3, .int x3), (4, .int x4), (5, .int x5), (6, .int x6), (8, .int x8)]) hC (dX11_sheet_112) (by decide) rfl ?_
        refine g_iinc (x := x8) (v := (x8 + 1)) (lv2 := [(8, .int (x8 + 1)), (7, .int x7_112), (9, .int s0_93), (0, .ref 0), (1, .int x1), (3, .int x3), (4, .int x4), (5, .int x5), (6, .int x6)]) hC (dX11_sheet_114) rfl rfl (by decide) rfl ?_
        refine g_goto (tgt := 59) hC (dX11_sheet_117) (by decide) ?_
        refine g_sub (lv' := [(0, .ref 0), (1, .int x1), (3, .int x3), (4, .int x4), (5, .int x5), (6, .int x6), (7, .int x7_112), (8, .int (x8 + 1))]) [3, 4, 5, 6, 7, 8, 1, 0] rfl ?_
        exact ih _ _ _ h
      refine g_icmp_ge (tgt := 92) hC (dX11_sheet_75) (by decide) (fun c75 => ?_) (fun c75 => ?_)
      · rw [if_pos c75] at e_s0_93
        refine g_iconst (v := 1) hC (dX11_sheet_92) kc_1 ?_
        subst e_s0_93
        exact hJ4
      · rw [if_neg c75] at e_s0_93
        refine g_iload_n (i := 1) (x := x1) hC (dX11_sheet_78) rfl rfl ?_
        refine g_iload_n (i := 3) (x := x3) hC (dX11_sheet_79) rfl rfl ?_
        refine g_iload (i := 8) (x := x8) hC (dX11_sheet_80) rfl ?_
        refine g_iload (i := 4) (x := x4) hC (dX11_sheet_82) rfl ?_
        refine g_imul hC (dX11_sheet_84) ?_
        refine g_iadd hC (dX11_sheet_85) ?_
        refine g_callSi ([.int x1, .int (x3 + (x8 * x4))]) hC wsX11_209 (dX11_sheet_86) rfl (by omega) (Nat.le_of_ble_eq_true rfl) (cX11_sheetEntry_ok (by omega) x1 (x3 + (x8 * x4)) M (K := fun r => r = fX11_sheetEntry x1 (x3 + (x8 * x4))) rfl) (fun r N q => ?_)
        obtain ⟨rfl, rfl⟩ := q
        refine g_goto (tgt := 93) hC (dX11_sheet_89) (by decide) ?_
        subst e_s0_93
        exact hJ4
set_option maxHeartbeats 4000000 in
theorem cX11_sheet_ok {E : zE} {d : Nat} (hd : 3 ≤ d) (x1 : Int32) (x2 : Int32) (x3 : Int32) (x4 : Int32) (M : zM) {K : (Int32 × zM) → Prop} (h : wpO (fX11_sheet x1 x2 x3 x4 M) K) : CMi E d yX11_sheet cX11_sheet 10 (some .int) [.ref 0, .int x1, .int x2, .int x3, .int x4] M (fun r N => K (r, N)) := by
  refine CMi.of (by decide) (Nat.le_of_ble_eq_true rfl) (fun Γ hC hr => ?_)
  have hC : Cx E Γ RX11 cX11_sheet 10 d := hC
  show G E Γ 10 0 [(0, .ref 0), (1, .int x1), (2, .int x2), (3, .int x3), (4, .int x4)] [] M
  unfold fX11_sheet at h
  refine g_iload_n (i := 1) (x := x1) hC (dX11_sheet_0) rfl rfl ?_
  refine g_if_lt (tgt := 15) hC (dX11_sheet_1) (by decide) (fun c1 => ?_) (fun c1 => ?_)
  · have h := wpO_t c1 h
    refine g_iconst (v := (-1)) hC (dX11_sheet_15) kc_m1 ?_
    refine g_ireturn hC hr (dX11_sheet_16) ?_
    exact wpO_s h
  · have h := wpO_f c1 h
    refine g_iload_n (i := 1) (x := x1) hC (dX11_sheet_4) rfl rfl ?_
    refine g_iconst (v := 3) hC (dX11_sheet_5) kc_3 ?_
    refine g_icmp_gt (tgt := 15) hC (dX11_sheet_6) (by decide) (fun c6 => ?_) (fun c6 => ?_)
    · have h := wpO_t c6 h
      refine g_iconst (v := (-1)) hC (dX11_sheet_15) kc_m1 ?_
      refine g_ireturn hC hr (dX11_sheet_16) ?_
      exact wpO_s h
    · have h := wpO_f c6 h
      refine g_iload_n (i := 2) (x := x2) hC (dX11_sheet_9) rfl rfl ?_
      refine g_bipush (v := 8) hC (dX11_sheet_10) kb_8 ?_
      refine g_icmp_le (tgt := 17) hC (dX11_sheet_12) (by decide) (fun c12 => ?_) (fun c12 => ?_)
      · have h := wpO_t c12 h
        refine g_iload_n (i := 1) (x := x1) hC (dX11_sheet_17) rfl rfl ?_
        refine g_iconst (v := 3) hC (dX11_sheet_18) kc_3 ?_
        obtain ⟨s0_27, e_s0_27, h⟩ := wpO_l h
        have hJ1 : G E Γ 10 27 [(0, .ref 0), (1, .int x1), (2, .int x2), (3, .int x3), (4, .int x4)] [.int s0_27] M := by
          refine g_istore (i := 5) (lv2 := [(5, .int s0_27), (0, .ref 0), (1, .int x1), (2, .int x2), (3, .int x3), (4, .int x4)]) hC (dX11_sheet_27) (by decide) rfl ?_
          refine g_iload (i := 5) (x := s0_27) hC (dX11_sheet_29) rfl ?_
          refine wpO_j h (fun J2 hkJ2 h => ?_)
          have hJ2 : ∀ (_ : Unit), wpO (J2 ()) K → G E Γ 10 41 [(0, .ref 0), (1, .int x1), (2, .int x2), (3, .int x3), (4, .int x4), (5, .int s0_27)] [] M := by
            intro _ h
            have h := hkJ2 _ h
            refine g_iload (i := 5) (x := s0_27) hC (dX11_sheet_41) rfl ?_
            obtain ⟨s0_51, e_s0_51, h⟩ := wpO_l h
            have hJ3 : G E Γ 10 51 [(0, .ref 0), (1, .int x1), (3, .int x3), (4, .int x4), (5, .int s0_27)] [.int s0_51] M := by
              refine g_istore (i := 6) (lv2 := [(6, .int s0_51), (0, .ref 0), (1, .int x1), (3, .int x3), (4, .int x4), (5, .int s0_27)]) hC (dX11_sheet_51) (by decide) rfl ?_
              refine g_iconst (v := 0) hC (dX11_sheet_53) kc_0 ?_
              refine g_istore (i := 7) (lv2 := [(7, .int 0), (6, .int s0_51), (0, .ref 0), (1, .int x1), (3, .int x3), (4, .int x4), (5, .int s0_27)]) hC (dX11_sheet_54) (by decide) rfl ?_
              refine g_iconst (v := 0) hC (dX11_sheet_56) kc_0 ?_
              refine g_istore (i := 8) (lv2 := [(8, .int 0), (7, .int 0), (6, .int s0_51), (0, .ref 0), (1, .int x1), (3, .int x3), (4, .int x4), (5, .int s0_27)]) hC (dX11_sheet_57) (by decide) rfl ?_
              refine g_sub (lv' := [(0, .ref 0), (1, .int x1), (3, .int x3), (4, .int x4), (5, .int s0_27), (6, .int s0_51), (7, .int 0), (8, .int 0)]) [3, 4, 5, 6, 7, 2, 1, 0] rfl ?_
              refine wpO_bJ h (fun KL59 hKL59 h => ?_)
              refine lX11_sheet_59 (K1 := KL59) hC (by omega) x1 x3 x4 s0_27 s0_51 (fun x7_120 M_120 h => ?_) _ _ _ _ h
              have h := hKL59 _ h
              have h := wpO_p h
              refine g_iload (i := 5) (x := s0_27) hC (dX11_sheet_120) rfl ?_
              refine g_if_eq (tgt := 130) hC (dX11_sheet_122) (by decide) (fun c122 => ?_) (fun c122 => ?_)
              · have h := wpO_t c122 h
                refine g_iload (i := 7) (x := x7_120) hC (dX11_sheet_130) rfl ?_
                refine g_ireturn hC hr (dX11_sheet_132) ?_
                exact wpO_s h
              · have h := wpO_f c122 h
                refine g_bipush (v := (-3)) hC (dX11_sheet_125) kb_m3 ?_
                refine g_goto (tgt := 132) hC (dX11_sheet_127) (by decide) ?_
                refine g_ireturn hC hr (dX11_sheet_132) ?_
                exact wpO_s h
            refine g_if_eq (tgt := 50) hC (dX11_sheet_43) (by decide) (fun c43 => ?_) (fun c43 => ?_)
            · rw [if_pos c43] at e_s0_51
              refine g_iload_n (i := 2) (x := x2) hC (dX11_sheet_50) rfl rfl ?_
              refine g_sub (lv' := [(0, .ref 0), (1, .int x1), (3, .int x3), (4, .int x4), (5, .int s0_27)]) [0, 1, 3, 4, 5] rfl ?_
              subst e_s0_51
              exact hJ3
            · rw [if_neg c43] at e_s0_51
              refine g_iconst (v := 0) hC (dX11_sheet_46) kc_0 ?_
              refine g_goto (tgt := 51) hC (dX11_sheet_47) (by decide) ?_
              refine g_sub (lv' := [(0, .ref 0), (1, .int x1), (3, .int x3), (4, .int x4), (5, .int s0_27)]) [0, 1, 3, 4, 5] rfl ?_
              subst e_s0_51
              exact hJ3
          refine g_if_ne (tgt := 41) hC (dX11_sheet_31) (by decide) (fun c31 => ?_) (fun c31 => ?_)
          · have h := wpO_f c31 h
            refine g_sub (lv' := [(0, .ref 0), (1, .int x1), (2, .int x2), (3, .int x3), (4, .int x4), (5, .int s0_27)]) [1, 2, 3, 4, 5, 0] rfl ?_
            exact hJ2 () h
          · have h := wpO_t c31 h
            refine g_iload_n (i := 2) (x := x2) hC (dX11_sheet_34) rfl rfl ?_
            refine g_if_ge (tgt := 41) hC (dX11_sheet_35) (by decide) (fun c35 => ?_) (fun c35 => ?_)
            · have h := wpO_t c35 h
              refine g_sub (lv' := [(0, .ref 0), (1, .int x1), (2, .int x2), (3, .int x3), (4, .int x4), (5, .int s0_27)]) [1, 2, 3, 4, 5, 0] rfl ?_
              exact hJ2 () h
            · have h := wpO_f c35 h
              refine g_bipush (v := (-2)) hC (dX11_sheet_38) kb_m2 ?_
              refine g_ireturn hC hr (dX11_sheet_40) ?_
              exact wpO_s h
        refine g_icmp_ne (tgt := 26) hC (dX11_sheet_19) (by decide) (fun c19 => ?_) (fun c19 => ?_)
        · rw [if_neg c19] at e_s0_27
          refine g_iconst (v := 0) hC (dX11_sheet_26) kc_0 ?_
          subst e_s0_27
          exact hJ1
        · rw [if_pos c19] at e_s0_27
          refine g_iconst (v := 1) hC (dX11_sheet_22) kc_1 ?_
          refine g_goto (tgt := 27) hC (dX11_sheet_23) (by decide) ?_
          subst e_s0_27
          exact hJ1
      · have h := wpO_f c12 h
        refine g_iconst (v := (-1)) hC (dX11_sheet_15) kc_m1 ?_
        refine g_ireturn hC hr (dX11_sheet_16) ?_
        exact wpO_s h
/-! LostByState.isThing(I)Z -/
theorem dX11_isThing_0 : decode cX11_isThing 0 = .ok (.iload_n 1, 1) := by decide +kernel
theorem dX11_isThing_1 : decode cX11_isThing 1 = .ok (.ifCond .lt 18, 3) := by decide +kernel
theorem dX11_isThing_4 : decode cX11_isThing 4 = .ok (.iload_n 1, 1) := by decide +kernel
theorem dX11_isThing_5 : decode cX11_isThing 5 = .ok (.aload_n 0, 1) := by decide +kernel
theorem dX11_isThing_6 : decode cX11_isThing 6 = .ok (.getfield 26, 3) := by decide +kernel
theorem dX11_isThing_9 : decode cX11_isThing 9 = .ok (.getfield 135, 3) := by decide +kernel
theorem dX11_isThing_12 : decode cX11_isThing 12 = .ok (.if_icmp .ge 7, 3) := by decide +kernel
theorem dX11_isThing_15 : decode cX11_isThing 15 = .ok (.iconst 1, 1) := by decide +kernel
theorem dX11_isThing_16 : decode cX11_isThing 16 = .ok (.goto 4, 3) := by decide +kernel
theorem dX11_isThing_19 : decode cX11_isThing 19 = .ok (.iconst 0, 1) := by decide +kernel
theorem dX11_isThing_20 : decode cX11_isThing 20 = .ok (.ireturn, 1) := by decide +kernel
def fX11_isThing (x1 : Int32) (M : zM) : Int32 := if x1 < 0 then (
  0)
  else (
  if (M.1 5 3) ≤ x1 then (
  0)
  else (
  1))
theorem bX11_isThing (x1 : Int32) (M : zM) : fX11_isThing x1 M = 0 ∨ fX11_isThing x1 M = 1 := by
  unfold fX11_isThing
  try simp only [zlet, zp, zj]
  repeat' split
  all_goals first | exact Or.inl rfl | exact Or.inr rfl | (simp; done)
set_option maxHeartbeats 4000000 in
theorem cX11_isThing_ok {E : zE} {d : Nat} (hd : 0 ≤ d) (x1 : Int32) (M : zM) {K : Int32 → Prop} (h : wpI (fX11_isThing x1 M) K) : CMi E d yX11_isThing cX11_isThing 2 (some .boolean) [.ref 0, .int x1] M (fun r N => M = N ∧ K r) := by
  refine CMi.of (by decide) (Nat.le_of_ble_eq_true rfl) (fun Γ hC hr => ?_)
  have hC : Cx E Γ RX11 cX11_isThing 2 d := hC
  show G E Γ 2 0 [(0, .ref 0), (1, .int x1)] [] M
  unfold fX11_isThing at h
  refine g_iload_n (i := 1) (x := x1) hC (dX11_isThing_0) rfl rfl ?_
  refine g_if_lt (tgt := 19) hC (dX11_isThing_1) (by decide) (fun c1 => ?_) (fun c1 => ?_)
  · have h := wpI_t c1 h
    refine g_iconst (v := 0) hC (dX11_isThing_19) kc_0 ?_
    refine g_zreturn hC hr (dX11_isThing_20) (Or.inl rfl) ?_
    exact ⟨rfl, wpI_s h⟩
  · have h := wpI_f c1 h
    refine g_iload_n (i := 1) (x := x1) hC (dX11_isThing_4) rfl rfl ?_
    refine g_aload_n (i := 0) (x := 0) hC (dX11_isThing_5) rfl rfl ?_
    refine g_getR (r := 5) hC flX11_26 (dX11_isThing_6) rfl rfl rfl ?_
    refine g_getI hC flX11_135 (dX11_isThing_9) rfl rfl ?_
    refine g_icmp_ge (tgt := 19) hC (dX11_isThing_12) (by decide) (fun c12 => ?_) (fun c12 => ?_)
    · have h := wpI_t c12 h
      refine g_iconst (v := 0) hC (dX11_isThing_19) kc_0 ?_
      refine g_zreturn hC hr (dX11_isThing_20) (Or.inl rfl) ?_
      exact ⟨rfl, wpI_s h⟩
    · have h := wpI_f c12 h
      refine g_iconst (v := 1) hC (dX11_isThing_15) kc_1 ?_
      refine g_goto (tgt := 20) hC (dX11_isThing_16) (by decide) ?_
      refine g_zreturn hC hr (dX11_isThing_20) (Or.inr rfl) ?_
      exact ⟨rfl, wpI_s h⟩
/-! LostByState.isPlace(I)Z -/
theorem dX11_isPlace_0 : decode cX11_isPlace 0 = .ok (.iload_n 0, 1) := by decide +kernel
theorem dX11_isPlace_1 : decode cX11_isPlace 1 = .ok (.ifCond .lt 13, 3) := by decide +kernel
theorem dX11_isPlace_4 : decode cX11_isPlace 4 = .ok (.iload_n 0, 1) := by decide +kernel
theorem dX11_isPlace_5 : decode cX11_isPlace 5 = .ok (.bipush 6, 2) := by decide +kernel
theorem dX11_isPlace_7 : decode cX11_isPlace 7 = .ok (.if_icmp .ge 7, 3) := by decide +kernel
theorem dX11_isPlace_10 : decode cX11_isPlace 10 = .ok (.iconst 1, 1) := by decide +kernel
theorem dX11_isPlace_11 : decode cX11_isPlace 11 = .ok (.goto 4, 3) := by decide +kernel
theorem dX11_isPlace_14 : decode cX11_isPlace 14 = .ok (.iconst 0, 1) := by decide +kernel
theorem dX11_isPlace_15 : decode cX11_isPlace 15 = .ok (.ireturn, 1) := by decide +kernel
def fX11_isPlace (x0 : Int32) : Int32 := if x0 < 0 then (
  0)
  else (
  if 6 ≤ x0 then (
  0)
  else (
  1))
theorem bX11_isPlace (x0 : Int32) : fX11_isPlace x0 = 0 ∨ fX11_isPlace x0 = 1 := by
  unfold fX11_isPlace
  try simp only [zlet, zp, zj]
  repeat' split
  all_goals first | exact Or.inl rfl | exact Or.inr rfl | (simp; done)
set_option maxHeartbeats 4000000 in
theorem cX11_isPlace_ok {E : zE} {d : Nat} (hd : 0 ≤ d) (x0 : Int32) (M : zM) {K : Int32 → Prop} (h : wpI (fX11_isPlace x0) K) : CMi E d yX11_isPlace cX11_isPlace 1 (some .boolean) [.int x0] M (fun r N => M = N ∧ K r) := by
  refine CMi.of (by decide) (Nat.le_of_ble_eq_true rfl) (fun Γ hC hr => ?_)
  have hC : Cx E Γ RX11 cX11_isPlace 1 d := hC
  show G E Γ 1 0 [(0, .int x0)] [] M
  unfold fX11_isPlace at h
  refine g_iload_n (i := 0) (x := x0) hC (dX11_isPlace_0) rfl rfl ?_
  refine g_if_lt (tgt := 14) hC (dX11_isPlace_1) (by decide) (fun c1 => ?_) (fun c1 => ?_)
  · have h := wpI_t c1 h
    refine g_iconst (v := 0) hC (dX11_isPlace_14) kc_0 ?_
    refine g_zreturn hC hr (dX11_isPlace_15) (Or.inl rfl) ?_
    exact ⟨rfl, wpI_s h⟩
  · have h := wpI_f c1 h
    refine g_iload_n (i := 0) (x := x0) hC (dX11_isPlace_4) rfl rfl ?_
    refine g_bipush (v := 6) hC (dX11_isPlace_5) kb_6 ?_
    refine g_icmp_ge (tgt := 14) hC (dX11_isPlace_7) (by decide) (fun c7 => ?_) (fun c7 => ?_)
    · have h := wpI_t c7 h
      refine g_iconst (v := 0) hC (dX11_isPlace_14) kc_0 ?_
      refine g_zreturn hC hr (dX11_isPlace_15) (Or.inl rfl) ?_
      exact ⟨rfl, wpI_s h⟩
    · have h := wpI_f c7 h
      refine g_iconst (v := 1) hC (dX11_isPlace_10) kc_1 ?_
      refine g_goto (tgt := 15) hC (dX11_isPlace_11) (by decide) ?_
      refine g_zreturn hC hr (dX11_isPlace_15) (Or.inr rfl) ?_
      exact ⟨rfl, wpI_s h⟩
/-! LostByState.isPerson(I)Z -/
theorem dX11_isPerson_0 : decode cX11_isPerson 0 = .ok (.iload_n 0, 1) := by decide +kernel
theorem dX11_isPerson_1 : decode cX11_isPerson 1 = .ok (.ifCond .lt 13, 3) := by decide +kernel
theorem dX11_isPerson_4 : decode cX11_isPerson 4 = .ok (.iload_n 0, 1) := by decide +kernel
theorem dX11_isPerson_5 : decode cX11_isPerson 5 = .ok (.bipush 6, 2) := by decide +kernel
theorem dX11_isPerson_7 : decode cX11_isPerson 7 = .ok (.if_icmp .ge 7, 3) := by decide +kernel
theorem dX11_isPerson_10 : decode cX11_isPerson 10 = .ok (.iconst 1, 1) := by decide +kernel
theorem dX11_isPerson_11 : decode cX11_isPerson 11 = .ok (.goto 4, 3) := by decide +kernel
theorem dX11_isPerson_14 : decode cX11_isPerson 14 = .ok (.iconst 0, 1) := by decide +kernel
theorem dX11_isPerson_15 : decode cX11_isPerson 15 = .ok (.ireturn, 1) := by decide +kernel
def fX11_isPerson (x0 : Int32) : Int32 := if x0 < 0 then (
  0)
  else (
  if 6 ≤ x0 then (
  0)
  else (
  1))
theorem bX11_isPerson (x0 : Int32) : fX11_isPerson x0 = 0 ∨ fX11_isPerson x0 = 1 := by
  unfold fX11_isPerson
  try simp only [zlet, zp, zj]
  repeat' split
  all_goals first | exact Or.inl rfl | exact Or.inr rfl | (simp; done)
set_option maxHeartbeats 4000000 in
theorem cX11_isPerson_ok {E : zE} {d : Nat} (hd : 0 ≤ d) (x0 : Int32) (M : zM) {K : Int32 → Prop} (h : wpI (fX11_isPerson x0) K) : CMi E d yX11_isPerson cX11_isPerson 1 (some .boolean) [.int x0] M (fun r N => M = N ∧ K r) := by
  refine CMi.of (by decide) (Nat.le_of_ble_eq_true rfl) (fun Γ hC hr => ?_)
  have hC : Cx E Γ RX11 cX11_isPerson 1 d := hC
  show G E Γ 1 0 [(0, .int x0)] [] M
  unfold fX11_isPerson at h
  refine g_iload_n (i := 0) (x := x0) hC (dX11_isPerson_0) rfl rfl ?_
  refine g_if_lt (tgt := 14) hC (dX11_isPerson_1) (by decide) (fun c1 => ?_) (fun c1 => ?_)
  · have h := wpI_t c1 h
    refine g_iconst (v := 0) hC (dX11_isPerson_14) kc_0 ?_
    refine g_zreturn hC hr (dX11_isPerson_15) (Or.inl rfl) ?_
    exact ⟨rfl, wpI_s h⟩
  · have h := wpI_f c1 h
    refine g_iload_n (i := 0) (x := x0) hC (dX11_isPerson_4) rfl rfl ?_
    refine g_bipush (v := 6) hC (dX11_isPerson_5) kb_6 ?_
    refine g_icmp_ge (tgt := 14) hC (dX11_isPerson_7) (by decide) (fun c7 => ?_) (fun c7 => ?_)
    · have h := wpI_t c7 h
      refine g_iconst (v := 0) hC (dX11_isPerson_14) kc_0 ?_
      refine g_zreturn hC hr (dX11_isPerson_15) (Or.inl rfl) ?_
      exact ⟨rfl, wpI_s h⟩
    · have h := wpI_f c7 h
      refine g_iconst (v := 1) hC (dX11_isPerson_10) kc_1 ?_
      refine g_goto (tgt := 15) hC (dX11_isPerson_11) (by decide) ?_
      refine g_zreturn hC hr (dX11_isPerson_15) (Or.inr rfl) ?_
      exact ⟨rfl, wpI_s h⟩
/-! LostByState.isSomebody(I)Z -/
theorem dX11_isSomebody_0 : decode cX11_isSomebody 0 = .ok (.iload_n 0, 1) := by decide +kernel
theorem dX11_isSomebody_1 : decode cX11_isSomebody 1 = .ok (.ifCond .lt 13, 3) := by decide +kernel
theorem dX11_isSomebody_4 : decode cX11_isSomebody 4 = .ok (.iload_n 0, 1) := by decide +kernel
theorem dX11_isSomebody_5 : decode cX11_isSomebody 5 = .ok (.bipush 6, 2) := by decide +kernel
theorem dX11_isSomebody_7 : decode cX11_isSomebody 7 = .ok (.if_icmp .gt 7, 3) := by decide +kernel
theorem dX11_isSomebody_10 : decode cX11_isSomebody 10 = .ok (.iconst 1, 1) := by decide +kernel
theorem dX11_isSomebody_11 : decode cX11_isSomebody 11 = .ok (.goto 4, 3) := by decide +kernel
theorem dX11_isSomebody_14 : decode cX11_isSomebody 14 = .ok (.iconst 0, 1) := by decide +kernel
theorem dX11_isSomebody_15 : decode cX11_isSomebody 15 = .ok (.ireturn, 1) := by decide +kernel
def fX11_isSomebody (x0 : Int32) : Int32 := if x0 < 0 then (
  0)
  else (
  if 6 < x0 then (
  0)
  else (
  1))
theorem bX11_isSomebody (x0 : Int32) : fX11_isSomebody x0 = 0 ∨ fX11_isSomebody x0 = 1 := by
  unfold fX11_isSomebody
  try simp only [zlet, zp, zj]
  repeat' split
  all_goals first | exact Or.inl rfl | exact Or.inr rfl | (simp; done)
set_option maxHeartbeats 4000000 in
theorem cX11_isSomebody_ok {E : zE} {d : Nat} (hd : 0 ≤ d) (x0 : Int32) (M : zM) {K : Int32 → Prop} (h : wpI (fX11_isSomebody x0) K) : CMi E d yX11_isSomebody cX11_isSomebody 1 (some .boolean) [.int x0] M (fun r N => M = N ∧ K r) := by
  refine CMi.of (by decide) (Nat.le_of_ble_eq_true rfl) (fun Γ hC hr => ?_)
  have hC : Cx E Γ RX11 cX11_isSomebody 1 d := hC
  show G E Γ 1 0 [(0, .int x0)] [] M
  unfold fX11_isSomebody at h
  refine g_iload_n (i := 0) (x := x0) hC (dX11_isSomebody_0) rfl rfl ?_
  refine g_if_lt (tgt := 14) hC (dX11_isSomebody_1) (by decide) (fun c1 => ?_) (fun c1 => ?_)
  · have h := wpI_t c1 h
    refine g_iconst (v := 0) hC (dX11_isSomebody_14) kc_0 ?_
    refine g_zreturn hC hr (dX11_isSomebody_15) (Or.inl rfl) ?_
    exact ⟨rfl, wpI_s h⟩
  · have h := wpI_f c1 h
    refine g_iload_n (i := 0) (x := x0) hC (dX11_isSomebody_4) rfl rfl ?_
    refine g_bipush (v := 6) hC (dX11_isSomebody_5) kb_6 ?_
    refine g_icmp_gt (tgt := 14) hC (dX11_isSomebody_7) (by decide) (fun c7 => ?_) (fun c7 => ?_)
    · have h := wpI_t c7 h
      refine g_iconst (v := 0) hC (dX11_isSomebody_14) kc_0 ?_
      refine g_zreturn hC hr (dX11_isSomebody_15) (Or.inl rfl) ?_
      exact ⟨rfl, wpI_s h⟩
    · have h := wpI_f c7 h
      refine g_iconst (v := 1) hC (dX11_isSomebody_10) kc_1 ?_
      refine g_goto (tgt := 15) hC (dX11_isSomebody_11) (by decide) ?_
      refine g_zreturn hC hr (dX11_isSomebody_15) (Or.inr rfl) ?_
      exact ⟨rfl, wpI_s h⟩
/-! LostByState.isDescription(I)Z -/
theorem dX11_isDescription_0 : decode cX11_isDescription 0 = .ok (.iload_n 0, 1) := by decide +kernel
theorem dX11_isDescription_1 : decode cX11_isDescription 1 = .ok (.ifCond .lt 14, 3) := by decide +kernel
theorem dX11_isDescription_4 : decode cX11_isDescription 4 = .ok (.iload_n 0, 1) := by decide +kernel
theorem dX11_isDescription_5 : decode cX11_isDescription 5 = .ok (.sipush 255, 3) := by decide +kernel
theorem dX11_isDescription_8 : decode cX11_isDescription 8 = .ok (.if_icmp .gt 7, 3) := by decide +kernel
theorem dX11_isDescription_11 : decode cX11_isDescription 11 = .ok (.iconst 1, 1) := by decide +kernel
theorem dX11_isDescription_12 : decode cX11_isDescription 12 = .ok (.goto 4, 3) := by decide +kernel
theorem dX11_isDescription_15 : decode cX11_isDescription 15 = .ok (.iconst 0, 1) := by decide +kernel
theorem dX11_isDescription_16 : decode cX11_isDescription 16 = .ok (.ireturn, 1) := by decide +kernel
def fX11_isDescription (x0 : Int32) : Int32 := if x0 < 0 then (
  0)
  else (
  if 255 < x0 then (
  0)
  else (
  1))
theorem bX11_isDescription (x0 : Int32) : fX11_isDescription x0 = 0 ∨ fX11_isDescription x0 = 1 := by
  unfold fX11_isDescription
  try simp only [zlet, zp, zj]
  repeat' split
  all_goals first | exact Or.inl rfl | exact Or.inr rfl | (simp; done)
set_option maxHeartbeats 4000000 in
theorem cX11_isDescription_ok {E : zE} {d : Nat} (hd : 0 ≤ d) (x0 : Int32) (M : zM) {K : Int32 → Prop} (h : wpI (fX11_isDescription x0) K) : CMi E d yX11_isDescription cX11_isDescription 1 (some .boolean) [.int x0] M (fun r N => M = N ∧ K r) := by
  refine CMi.of (by decide) (Nat.le_of_ble_eq_true rfl) (fun Γ hC hr => ?_)
  have hC : Cx E Γ RX11 cX11_isDescription 1 d := hC
  show G E Γ 1 0 [(0, .int x0)] [] M
  unfold fX11_isDescription at h
  refine g_iload_n (i := 0) (x := x0) hC (dX11_isDescription_0) rfl rfl ?_
  refine g_if_lt (tgt := 15) hC (dX11_isDescription_1) (by decide) (fun c1 => ?_) (fun c1 => ?_)
  · have h := wpI_t c1 h
    refine g_iconst (v := 0) hC (dX11_isDescription_15) kc_0 ?_
    refine g_zreturn hC hr (dX11_isDescription_16) (Or.inl rfl) ?_
    exact ⟨rfl, wpI_s h⟩
  · have h := wpI_f c1 h
    refine g_iload_n (i := 0) (x := x0) hC (dX11_isDescription_4) rfl rfl ?_
    refine g_sipush (v := 255) hC (dX11_isDescription_5) ks_255 ?_
    refine g_icmp_gt (tgt := 15) hC (dX11_isDescription_8) (by decide) (fun c8 => ?_) (fun c8 => ?_)
    · have h := wpI_t c8 h
      refine g_iconst (v := 0) hC (dX11_isDescription_15) kc_0 ?_
      refine g_zreturn hC hr (dX11_isDescription_16) (Or.inl rfl) ?_
      exact ⟨rfl, wpI_s h⟩
    · have h := wpI_f c8 h
      refine g_iconst (v := 1) hC (dX11_isDescription_11) kc_1 ?_
      refine g_goto (tgt := 16) hC (dX11_isDescription_12) (by decide) ?_
      refine g_zreturn hC hr (dX11_isDescription_16) (Or.inr rfl) ?_
      exact ⟨rfl, wpI_s h⟩
/-! LostByState.matchOf(IILLostByState$Whereabouts;)I -/
theorem dX11_matchOf_0 : decode cX11_matchOf 0 = .ok (.iconst 0, 1) := by decide +kernel
theorem dX11_matchOf_1 : decode cX11_matchOf 1 = .ok (.aload_n 3, 1) := by decide +kernel
theorem dX11_matchOf_2 : decode cX11_matchOf 2 = .ok (.getfield 188, 3) := by decide +kernel
theorem dX11_matchOf_5 : decode cX11_matchOf 5 = .ok (.iload_n 2, 1) := by decide +kernel
theorem dX11_matchOf_6 : decode cX11_matchOf 6 = .ok (.iaload, 1) := by decide +kernel
theorem dX11_matchOf_7 : decode cX11_matchOf 7 = .ok (.invokestatic 346, 3) := by decide +kernel
theorem dX11_matchOf_10 : decode cX11_matchOf 10 = .ok (.istore 4, 2) := by decide +kernel
theorem dX11_matchOf_12 : decode cX11_matchOf 12 = .ok (.aload_n 0, 1) := by decide +kernel
theorem dX11_matchOf_13 : decode cX11_matchOf 13 = .ok (.getfield 26, 3) := by decide +kernel
theorem dX11_matchOf_16 : decode cX11_matchOf 16 = .ok (.getfield 176, 3) := by decide +kernel
theorem dX11_matchOf_19 : decode cX11_matchOf 19 = .ok (.iload_n 2, 1) := by decide +kernel
theorem dX11_matchOf_20 : decode cX11_matchOf 20 = .ok (.iaload, 1) := by decide +kernel
theorem dX11_matchOf_21 : decode cX11_matchOf 21 = .ok (.istore 5, 2) := by decide +kernel
theorem dX11_matchOf_23 : decode cX11_matchOf 23 = .ok (.iload_n 1, 1) := by decide +kernel
theorem dX11_matchOf_24 : decode cX11_matchOf 24 = .ok (.iload 5, 2) := by decide +kernel
theorem dX11_matchOf_26 : decode cX11_matchOf 26 = .ok (.iand, 1) := by decide +kernel
theorem dX11_matchOf_27 : decode cX11_matchOf 27 = .ok (.invokestatic 240, 3) := by decide +kernel
theorem dX11_matchOf_30 : decode cX11_matchOf 30 = .ok (.istore 6, 2) := by decide +kernel
theorem dX11_matchOf_32 : decode cX11_matchOf 32 = .ok (.iload_n 1, 1) := by decide +kernel
theorem dX11_matchOf_33 : decode cX11_matchOf 33 = .ok (.iload 5, 2) := by decide +kernel
theorem dX11_matchOf_35 : decode cX11_matchOf 35 = .ok (.iconst (-1), 1) := by decide +kernel
theorem dX11_matchOf_36 : decode cX11_matchOf 36 = .ok (.ixor, 1) := by decide +kernel
theorem dX11_matchOf_37 : decode cX11_matchOf 37 = .ok (.iand, 1) := by decide +kernel
theorem dX11_matchOf_38 : decode cX11_matchOf 38 = .ok (.invokestatic 240, 3) := by decide +kernel
theorem dX11_matchOf_41 : decode cX11_matchOf 41 = .ok (.istore 7, 2) := by decide +kernel
theorem dX11_matchOf_43 : decode cX11_matchOf 43 = .ok (.iload 5, 2) := by decide +kernel
theorem dX11_matchOf_45 : decode cX11_matchOf 45 = .ok (.iload_n 1, 1) := by decide +kernel
theorem dX11_matchOf_46 : decode cX11_matchOf 46 = .ok (.iconst (-1), 1) := by decide +kernel
theorem dX11_matchOf_47 : decode cX11_matchOf 47 = .ok (.ixor, 1) := by decide +kernel
theorem dX11_matchOf_48 : decode cX11_matchOf 48 = .ok (.iand, 1) := by decide +kernel
theorem dX11_matchOf_49 : decode cX11_matchOf 49 = .ok (.invokestatic 240, 3) := by decide +kernel
theorem dX11_matchOf_52 : decode cX11_matchOf 52 = .ok (.istore 8, 2) := by decide +kernel
theorem dX11_matchOf_54 : decode cX11_matchOf 54 = .ok (.aload_n 0, 1) := by decide +kernel
theorem dX11_matchOf_55 : decode cX11_matchOf 55 = .ok (.getfield 58, 3) := by decide +kernel
theorem dX11_matchOf_58 : decode cX11_matchOf 58 = .ok (.iload 6, 2) := by decide +kernel
theorem dX11_matchOf_60 : decode cX11_matchOf 60 = .ok (.iload 7, 2) := by decide +kernel
theorem dX11_matchOf_62 : decode cX11_matchOf 62 = .ok (.iload 8, 2) := by decide +kernel
theorem dX11_matchOf_64 : decode cX11_matchOf 64 = .ok (.aload_n 0, 1) := by decide +kernel
theorem dX11_matchOf_65 : decode cX11_matchOf 65 = .ok (.getfield 26, 3) := by decide +kernel
theorem dX11_matchOf_68 : decode cX11_matchOf 68 = .ok (.getfield 179, 3) := by decide +kernel
theorem dX11_matchOf_71 : decode cX11_matchOf 71 = .ok (.iload_n 2, 1) := by decide +kernel
theorem dX11_matchOf_72 : decode cX11_matchOf 72 = .ok (.iaload, 1) := by decide +kernel
theorem dX11_matchOf_73 : decode cX11_matchOf 73 = .ok (.iload 4, 2) := by decide +kernel
theorem dX11_matchOf_75 : decode cX11_matchOf 75 = .ok (.aload_n 3, 1) := by decide +kernel
theorem dX11_matchOf_76 : decode cX11_matchOf 76 = .ok (.invokevirtual 441, 3) := by decide +kernel
theorem dX11_matchOf_79 : decode cX11_matchOf 79 = .ok (.invokevirtual 444, 3) := by decide +kernel
theorem dX11_matchOf_82 : decode cX11_matchOf 82 = .ok (.ireturn, 1) := by decide +kernel
def fX11_matchOf (x1 : Int32) (x2 : Int32) (x3 : Nat) (M : zM) : Option (Int32 × zM) := if zSH x3 = .inl 10 then (
  if zin x2 8 then (
  zlet (zmax 0 (M.1 (x3 + 3) x2.toNatClampNeg)) fun (x4_10 : Int32) =>
  zlet (M.1 6 x2.toNatClampNeg) fun (x5_21 : Int32) =>
  zlet (fJ6_bitCount_0f7a4 (x1 &&& x5_21)) fun (x6_30 : Int32) =>
  zlet (fJ6_bitCount_0f7a4 (x1 &&& (x5_21 ^^^ (-1)))) fun (x7_41 : Int32) =>
  zlet (fJ6_bitCount_0f7a4 (x5_21 &&& (x1 ^^^ (-1)))) fun (x8_52 : Int32) =>
  (fX10_weekday x3 M).bind fun (r6 : Int32) =>
  (fX4_valueOf 13 x6_30 x7_41 x8_52 (M.1 7 x2.toNatClampNeg) x4_10 r6 M).bind fun (q : Int32 × zM) => zp q fun r7 M79 =>
  some (r7, M79)) else none) else none
set_option maxHeartbeats 4000000 in
theorem cX11_matchOf_ok {E : zE} {d : Nat} (hd : 2 ≤ d) (x1 : Int32) (x2 : Int32) (x3 : Nat) (M : zM) {K : (Int32 × zM) → Prop} (h : wpO (fX11_matchOf x1 x2 x3 M) K) : CMi E d yX11_matchOf cX11_matchOf 9 (some .int) [.ref 0, .int x1, .int x2, .ref x3] M (fun r N => K (r, N)) := by
  refine CMi.of (by decide) (Nat.le_of_ble_eq_true rfl) (fun Γ hC hr => ?_)
  have hC : Cx E Γ RX11 cX11_matchOf 9 d := hC
  show G E Γ 9 0 [(0, .ref 0), (1, .int x1), (2, .int x2), (3, .ref x3)] [] M
  unfold fX11_matchOf at h
  refine g_iconst (v := 0) hC (dX11_matchOf_0) kc_0 ?_
  refine g_aload_n (i := 3) (x := x3) hC (dX11_matchOf_1) rfl rfl ?_
  obtain ⟨q1, h⟩ := wpO_g h
  refine g_getR (r := x3 + 3) hC flX11_188 (dX11_matchOf_2) q1 rfl (zRFw3 q1) ?_
  refine g_iload_n (i := 2) (x := x2) hC (dX11_matchOf_5) rfl rfl ?_
  obtain ⟨q2, h⟩ := wpO_g h
  refine g_iaload (n := 8) hC (dX11_matchOf_6) (zSHw3 q1) q2 ?_
  refine g_max hC wmX11_346 (dX11_matchOf_7) (by omega) (Nat.le_of_ble_eq_true rfl) ?_
  refine g_nmi (fun x4_10 e_x4_10 => ?_)
  have h := wpO_n e_x4_10 h
  refine g_istore (i := 4) (lv2 := [(4, .int x4_10), (0, .ref 0), (1, .int x1), (2, .int x2), (3, .ref x3)]) hC (dX11_matchOf_10) (by decide) rfl ?_
  refine g_aload_n (i := 0) (x := 0) hC (dX11_matchOf_12) rfl rfl ?_
  refine g_getR (r := 5) hC flX11_26 (dX11_matchOf_13) rfl rfl rfl ?_
  refine g_getR (r := 6) hC flX11_176 (dX11_matchOf_16) rfl rfl rfl ?_
  refine g_iload_n (i := 2) (x := x2) hC (dX11_matchOf_19) rfl rfl ?_
  refine g_iaload (n := 8) hC (dX11_matchOf_20) rfl q2 ?_
  refine g_nmi (fun x5_21 e_x5_21 => ?_)
  have h := wpO_n e_x5_21 h
  refine g_istore (i := 5) (lv2 := [(5, .int x5_21), (4, .int x4_10), (0, .ref 0), (1, .int x1), (2, .int x2), (3, .ref x3)]) hC (dX11_matchOf_21) (by decide) rfl ?_
  refine g_iload_n (i := 1) (x := x1) hC (dX11_matchOf_23) rfl rfl ?_
  refine g_iload (i := 5) (x := x5_21) hC (dX11_matchOf_24) rfl ?_
  refine g_iand hC (dX11_matchOf_26) ?_
  refine g_callSi ([.int (x1 &&& x5_21)]) hC wsX11_240 (dX11_matchOf_27) rfl (by omega) (Nat.le_of_ble_eq_true rfl) (cJ6_bitCount_0f7a4_ok (by omega) (x1 &&& x5_21) M (K := fun r => r = fJ6_bitCount_0f7a4 (x1 &&& x5_21)) rfl) (fun r N q => ?_)
  obtain ⟨rfl, rfl⟩ := q
  refine g_nmi (fun x6_30 e_x6_30 => ?_)
  have h := wpO_n e_x6_30 h
  refine g_istore (i := 6) (lv2 := [(6, .int x6_30), (5, .int x5_21), (4, .int x4_10), (0, .ref 0), (1, .int x1), (2, .int x2), (3, .ref x3)]) hC (dX11_matchOf_30) (by decide) rfl ?_
  refine g_iload_n (i := 1) (x := x1) hC (dX11_matchOf_32) rfl rfl ?_
  refine g_iload (i := 5) (x := x5_21) hC (dX11_matchOf_33) rfl ?_
  refine g_iconst (v := (-1)) hC (dX11_matchOf_35) kc_m1 ?_
  refine g_ixor hC (dX11_matchOf_36) ?_
  refine g_iand hC (dX11_matchOf_37) ?_
  refine g_callSi ([.int (x1 &&& (x5_21 ^^^ (-1)))]) hC wsX11_240 (dX11_matchOf_38) rfl (by omega) (Nat.le_of_ble_eq_true rfl) (cJ6_bitCount_0f7a4_ok (by omega) (x1 &&& (x5_21 ^^^ (-1))) M (K := fun r => r = fJ6_bitCount_0f7a4 (x1 &&& (x5_21 ^^^ (-1)))) rfl) (fun r N q => ?_)
  obtain ⟨rfl, rfl⟩ := q
  refine g_nmi (fun x7_41 e_x7_41 => ?_)
  have h := wpO_n e_x7_41 h
  refine g_istore (i := 7) (lv2 := [(7, .int x7_41), (6, .int x6_30), (5, .int x5_21), (4, .int x4_10), (0, .ref 0), (1, .int x1), (2, .int x2), (3, .ref x3)]) hC (dX11_matchOf_41) (by decide) rfl ?_
  refine g_iload (i := 5) (x := x5_21) hC (dX11_matchOf_43) rfl ?_
  refine g_iload_n (i := 1) (x := x1) hC (dX11_matchOf_45) rfl rfl ?_
  refine g_iconst (v := (-1)) hC (dX11_matchOf_46) kc_m1 ?_
  refine g_ixor hC (dX11_matchOf_47) ?_
  refine g_iand hC (dX11_matchOf_48) ?_
  refine g_callSi ([.int (x5_21 &&& (x1 ^^^ (-1)))]) hC wsX11_240 (dX11_matchOf_49) rfl (by omega) (Nat.le_of_ble_eq_true rfl) (cJ6_bitCount_0f7a4_ok (by omega) (x5_21 &&& (x1 ^^^ (-1))) M (K := fun r => r = fJ6_bitCount_0f7a4 (x5_21 &&& (x1 ^^^ (-1)))) rfl) (fun r N q => ?_)
  obtain ⟨rfl, rfl⟩ := q
  refine g_nmi (fun x8_52 e_x8_52 => ?_)
  have h := wpO_n e_x8_52 h
  refine g_istore (i := 8) (lv2 := [(8, .int x8_52), (7, .int x7_41), (6, .int x6_30), (5, .int x5_21), (4, .int x4_10), (0, .ref 0), (1, .int x1), (2, .int x2), (3, .ref x3)]) hC (dX11_matchOf_52) (by decide) rfl ?_
  refine g_aload_n (i := 0) (x := 0) hC (dX11_matchOf_54) rfl rfl ?_
  refine g_getR (r := 13) hC flX11_58 (dX11_matchOf_55) rfl rfl rfl ?_
  refine g_iload (i := 6) (x := x6_30) hC (dX11_matchOf_58) rfl ?_
  refine g_iload (i := 7) (x := x7_41) hC (dX11_matchOf_60) rfl ?_
  refine g_iload (i := 8) (x := x8_52) hC (dX11_matchOf_62) rfl ?_
  refine g_aload_n (i := 0) (x := 0) hC (dX11_matchOf_64) rfl rfl ?_
  refine g_getR (r := 5) hC flX11_26 (dX11_matchOf_65) rfl rfl rfl ?_
  refine g_getR (r := 7) hC flX11_179 (dX11_matchOf_68) rfl rfl rfl ?_
  refine g_iload_n (i := 2) (x := x2) hC (dX11_matchOf_71) rfl rfl ?_
  refine g_iaload (n := 8) hC (dX11_matchOf_72) rfl q2 ?_
  refine g_iload (i := 4) (x := x4_10) hC (dX11_matchOf_73) rfl ?_
  refine g_aload_n (i := 3) (x := x3) hC (dX11_matchOf_75) rfl rfl ?_
  have h := wpO_b h
  refine g_callVi ([]) hC wvX11_441 (dX11_matchOf_76) q1 rfl (by omega) (Nat.le_of_ble_eq_true rfl) (cX10_weekday_ok (by omega) x3 M h) (fun r6 N q => ?_)
  obtain ⟨rfl, h⟩ := q
  have h := wpO_b h
  refine g_callVi ([.int x6_30, .int x7_41, .int x8_52, .int (M.1 7 x2.toNatClampNeg), .int x4_10, .int r6]) hC wvX11_444 (dX11_matchOf_79) rfl rfl (by omega) (Nat.le_of_ble_eq_true rfl) (cX4_valueOf_ok (by omega) 13 x6_30 x7_41 x8_52 (M.1 7 x2.toNatClampNeg) x4_10 r6 M h) (fun r7 M79 h => ?_)
  have h := wpO_p h
  refine g_ireturn hC hr (dX11_matchOf_82) ?_
  exact wpO_s h
/-! LostByState.bestThing(ILLostByState$Whereabouts;)I -/
theorem dX11_bestThing_0 : decode cX11_bestThing 0 = .ok (.iconst (-1), 1) := by decide +kernel
theorem dX11_bestThing_1 : decode cX11_bestThing 1 = .ok (.istore_n 3, 1) := by decide +kernel
theorem dX11_bestThing_2 : decode cX11_bestThing 2 = .ok (.iconst 0, 1) := by decide +kernel
theorem dX11_bestThing_3 : decode cX11_bestThing 3 = .ok (.istore 4, 2) := by decide +kernel
theorem dX11_bestThing_5 : decode cX11_bestThing 5 = .ok (.iconst 0, 1) := by decide +kernel
theorem dX11_bestThing_6 : decode cX11_bestThing 6 = .ok (.istore 5, 2) := by decide +kernel
theorem dX11_bestThing_8 : decode cX11_bestThing 8 = .ok (.iload 5, 2) := by decide +kernel
theorem dX11_bestThing_10 : decode cX11_bestThing 10 = .ok (.aload_n 0, 1) := by decide +kernel
theorem dX11_bestThing_11 : decode cX11_bestThing 11 = .ok (.getfield 26, 3) := by decide +kernel
theorem dX11_bestThing_14 : decode cX11_bestThing 14 = .ok (.getfield 135, 3) := by decide +kernel
theorem dX11_bestThing_17 : decode cX11_bestThing 17 = .ok (.if_icmp .ge 58, 3) := by decide +kernel
theorem dX11_bestThing_20 : decode cX11_bestThing 20 = .ok (.aload_n 2, 1) := by decide +kernel
theorem dX11_bestThing_21 : decode cX11_bestThing 21 = .ok (.iload 5, 2) := by decide +kernel
theorem dX11_bestThing_23 : decode cX11_bestThing 23 = .ok (.invokevirtual 316, 3) := by decide +kernel
theorem dX11_bestThing_26 : decode cX11_bestThing 26 = .ok (.ifCond .ne 6, 3) := by decide +kernel
theorem dX11_bestThing_29 : decode cX11_bestThing 29 = .ok (.goto 40, 3) := by decide +kernel
theorem dX11_bestThing_32 : decode cX11_bestThing 32 = .ok (.aload_n 0, 1) := by decide +kernel
theorem dX11_bestThing_33 : decode cX11_bestThing 33 = .ok (.iload_n 1, 1) := by decide +kernel
theorem dX11_bestThing_34 : decode cX11_bestThing 34 = .ok (.iload 5, 2) := by decide +kernel
theorem dX11_bestThing_36 : decode cX11_bestThing 36 = .ok (.aload_n 2, 1) := by decide +kernel
theorem dX11_bestThing_37 : decode cX11_bestThing 37 = .ok (.invokevirtual 272, 3) := by decide +kernel
theorem dX11_bestThing_40 : decode cX11_bestThing 40 = .ok (.istore 6, 2) := by decide +kernel
theorem dX11_bestThing_42 : decode cX11_bestThing 42 = .ok (.iload 6, 2) := by decide +kernel
theorem dX11_bestThing_44 : decode cX11_bestThing 44 = .ok (.aload_n 0, 1) := by decide +kernel
theorem dX11_bestThing_45 : decode cX11_bestThing 45 = .ok (.getfield 113, 3) := by decide +kernel
theorem dX11_bestThing_48 : decode cX11_bestThing 48 = .ok (.if_icmp .lt 21, 3) := by decide +kernel
theorem dX11_bestThing_51 : decode cX11_bestThing 51 = .ok (.iload_n 3, 1) := by decide +kernel
theorem dX11_bestThing_52 : decode cX11_bestThing 52 = .ok (.ifCond .lt 10, 3) := by decide +kernel
theorem dX11_bestThing_55 : decode cX11_bestThing 55 = .ok (.iload 6, 2) := by decide +kernel
theorem dX11_bestThing_57 : decode cX11_bestThing 57 = .ok (.iload 4, 2) := by decide +kernel
theorem dX11_bestThing_59 : decode cX11_bestThing 59 = .ok (.if_icmp .le 10, 3) := by decide +kernel
theorem dX11_bestThing_62 : decode cX11_bestThing 62 = .ok (.iload 5, 2) := by decide +kernel
theorem dX11_bestThing_64 : decode cX11_bestThing 64 = .ok (.istore_n 3, 1) := by decide +kernel
theorem dX11_bestThing_65 : decode cX11_bestThing 65 = .ok (.iload 6, 2) := by decide +kernel
theorem dX11_bestThing_67 : decode cX11_bestThing 67 = .ok (.istore 4, 2) := by decide +kernel
theorem dX11_bestThing_69 : decode cX11_bestThing 69 = .ok (.iinc 5 1, 3) := by decide +kernel
theorem dX11_bestThing_72 : decode cX11_bestThing 72 = .ok (.goto (-64), 3) := by decide +kernel
theorem dX11_bestThing_75 : decode cX11_bestThing 75 = .ok (.iload_n 3, 1) := by decide +kernel
theorem dX11_bestThing_76 : decode cX11_bestThing 76 = .ok (.ireturn, 1) := by decide +kernel
def fX11_bestThing_L8 (x1 : Int32) (x2 : Nat) : Nat → Int32 → Int32 → Int32 → zM → Option (Int32 × zM)
  | 0, _, _, _, _ => none
  | n + 1, x3, x4, x5, M => if (M.1 5 3) ≤ x5 then (
    some (x3, M))
    else (
    if zSH x2 = .inl 10 then (
    (fX10_isIn x2 x5 M).bind fun (r2 : Int32) =>
    (if r2 = 0 then (
    some (x3, x4, M))
    else (
    (fX11_matchOf x1 x5 x2 M).bind fun (q : Int32 × zM) => zp q fun r4 M37 =>
    if r4 < (M37.1 0 18) then (
    some (x3, x4, M37))
    else (
    zj (fun (_ : Unit) =>
    some (x5, r4, M37))
    fun J5 =>
    if x3 < 0 then (
    J5 ())
    else (
    if r4 ≤ x4 then (
    some (x3, x4, M37))
    else (
    J5 ())))) : Option (Int32 × Int32 × zM)).bind fun (q : Int32 × Int32 × zM) => zp q fun x3_69 q => zp q fun x4_69 M_69 =>
    fX11_bestThing_L8 x1 x2 n x3_69 x4_69 (x5 + 1) M_69) else none)
def fX11_bestThing (x1 : Int32) (x2 : Nat) (M : zM) : Option (Int32 × zM) := (fX11_bestThing_L8 x1 x2 4000 (-1) 0 0 M).bind fun (q : Int32 × zM) => zp q fun x3_75 M_75 =>
  some (x3_75, M_75)
set_option maxHeartbeats 4000000 in
theorem lX11_bestThing_8 {E : zE} {Γ : zT} {d : Nat} {K1 : (Int32 × zM) → Prop} (hC : Cx E Γ RX11 cX11_bestThing 7 d) (hd : 3 ≤ d) (x1 : Int32) (x2 : Nat) (hx : ∀ (x3_75 : Int32) (M_75 : zM), K1 (x3_75, M_75) → G E Γ 7 75 [(3, .int x3_75)] [] M_75) :
    ∀ (n : Nat) (x3 : Int32) (x4 : Int32) (x5 : Int32) (M : zM), wpO (fX11_bestThing_L8 x1 x2 n x3 x4 x5 M) K1 → G E Γ 7 8 [(0, .ref 0), (1, .int x1), (2, .ref x2), (3, .int x3), (4, .int x4), (5, .int x5)] [] M := by
  intro n
  induction n with
  | zero =>
    intro x3 x4 x5 M h
    exact (wpO_0 h).elim
  | succ n ih =>
    intro x3 x4 x5 M h
    rw [fX11_bestThing_L8.eq_2] at h
    refine g_iload (i := 5) (x := x5) hC (dX11_bestThing_8) rfl ?_
    refine g_aload_n (i := 0) (x := 0) hC (dX11_bestThing_10) rfl rfl ?_
    refine g_getR (r := 5) hC flX11_26 (dX11_bestThing_11) rfl rfl rfl ?_
    refine g_getI hC flX11_135 (dX11_bestThing_14) rfl rfl ?_
    refine g_icmp_ge (tgt := 75) hC (dX11_bestThing_17) (by decide) (fun c17 => ?_) (fun c17 => ?_)
    · have h := wpO_t c17 h
      refine g_sub (lv' := [(3, .int x3)]) [3] rfl ?_
      exact hx _ _ (wpO_s h)
    · have h := wpO_f c17 h
      refine g_aload_n (i := 2) (x := x2) hC (dX11_bestThing_20) rfl rfl ?_
      refine g_iload (i := 5) (x := x5) hC (dX11_bestThing_21) rfl ?_
      obtain ⟨q1, h⟩ := wpO_g h
      have h := wpO_b h
      refine g_callVi ([.int x5]) hC wvX11_316 (dX11_bestThing_23) q1 rfl (by omega) (Nat.le_of_ble_eq_true rfl) (cX10_isIn_ok (by omega) x2 x5 M h) (fun r2 N q => ?_)
      obtain ⟨rfl, h⟩ := q
      refine wpO_bJ h (fun KJ3 hKJ3 h => ?_)
      have hJ3 : ∀ (x3_69 : Int32) (x4_69 : Int32) (M_69 : zM), KJ3 (x3_69, x4_69, M_69) → G E Γ 7 69 [(0, .ref 0), (1, .int x1), (2, .ref x2), (3, .int x3_69), (4, .int x4_69), (5, .int x5)] [] M_69 := by
        intro x3_69 x4_69 M_69 h
        have h := hKJ3 _ h
        have h := wpO_p h
        have h := wpO_p h
        refine g_iinc (x := x5) (v := (x5 + 1)) (lv2 := [(5, .int (x5 + 1)), (0, .ref 0), (1, .int x1), (2, .ref x2), (3, .int x3_69), (4, .int x4_69)]) hC (dX11_bestThing_69) rfl rfl (by decide) rfl ?_
        refine g_goto (tgt := 8) hC (dX11_bestThing_72) (by decide) ?_
        refine g_sub (lv' := [(0, .ref 0), (1, .int x1), (2, .ref x2), (3, .int x3_69), (4, .int x4_69), (5, .int (x5 + 1))]) [1, 2, 3, 4, 5, 0] rfl ?_
        exact ih _ _ _ _ h
      refine g_if_ne (tgt := 32) hC (dX11_bestThing_26) (by decide) (fun c26 => ?_) (fun c26 => ?_)
      · have h := wpO_f c26 h
        refine g_aload_n (i := 0) (x := 0) hC (dX11_bestThing_32) rfl rfl ?_
        refine g_iload_n (i := 1) (x := x1) hC (dX11_bestThing_33) rfl rfl ?_
        refine g_iload (i := 5) (x := x5) hC (dX11_bestThing_34) rfl ?_
        refine g_aload_n (i := 2) (x := x2) hC (dX11_bestThing_36) rfl rfl ?_
        have h := wpO_b h
        refine g_callVi ([.int x1, .int x5, .ref x2]) hC wvX11_272 (dX11_bestThing_37) rfl rfl (by omega) (Nat.le_of_ble_eq_true rfl) (cX11_matchOf_ok (by omega) x1 x5 x2 M h) (fun r4 M37 h => ?_)
        have h := wpO_p h
        refine g_istore (i := 6) (lv2 := [(6, .int r4), (0, .ref 0), (1, .int x1), (2, .ref x2), (3, .int x3), (4, .int x4), (5, .int x5)]) hC (dX11_bestThing_40) (by decide) rfl ?_
        refine g_iload (i := 6) (x := r4) hC (dX11_bestThing_42) rfl ?_
        refine g_aload_n (i := 0) (x := 0) hC (dX11_bestThing_44) rfl rfl ?_
        refine g_getI hC flX11_113 (dX11_bestThing_45) rfl rfl ?_
        refine g_icmp_lt (tgt := 69) hC (dX11_bestThing_48) (by decide) (fun c48 => ?_) (fun c48 => ?_)
        · have h := wpO_t c48 h
          refine g_sub (lv' := [(0, .ref 0), (1, .int x1), (2, .ref x2), (3, .int x3), (4, .int x4), (5, .int x5)]) [1, 2, 3, 4, 5, 6] rfl ?_
          exact hJ3 _ _ _ (wpO_s h)
        · have h := wpO_f c48 h
          refine g_iload_n (i := 3) (x := x3) hC (dX11_bestThing_51) rfl rfl ?_
          refine wpO_j h (fun J5 hkJ5 h => ?_)
          have hJ5 : ∀ (_ : Unit), wpO (J5 ()) KJ3 → G E Γ 7 62 [(0, .ref 0), (1, .int x1), (2, .ref x2), (5, .int x5), (6, .int r4)] [] M37 := by
            intro _ h
            have h := hkJ5 _ h
            refine g_iload (i := 5) (x := x5) hC (dX11_bestThing_62) rfl ?_
            refine g_istore_n (i := 3) (lv2 := [(3, .int x5), (0, .ref 0), (1, .int x1), (2, .ref x2), (5, .int x5), (6, .int r4)]) hC (dX11_bestThing_64) rfl (by decide) rfl ?_
            refine g_iload (i := 6) (x := r4) hC (dX11_bestThing_65) rfl ?_
            refine g_istore (i := 4) (lv2 := [(4, .int r4), (3, .int x5), (0, .ref 0), (1, .int x1), (2, .ref x2), (5, .int x5), (6, .int r4)]) hC (dX11_bestThing_67) (by decide) rfl ?_
            refine g_sub (lv' := [(0, .ref 0), (1, .int x1), (2, .ref x2), (3, .int x5), (4, .int r4), (5, .int x5)]) [2, 3, 4, 1, 0, 5] rfl ?_
            exact hJ3 _ _ _ (wpO_s h)
          refine g_if_lt (tgt := 62) hC (dX11_bestThing_52) (by decide) (fun c52 => ?_) (fun c52 => ?_)
          · have h := wpO_t c52 h
            refine g_sub (lv' := [(0, .ref 0), (1, .int x1), (2, .ref x2), (5, .int x5), (6, .int r4)]) [1, 2, 3, 6, 0] rfl ?_
            exact hJ5 () h
          · have h := wpO_f c52 h
            refine g_iload (i := 6) (x := r4) hC (dX11_bestThing_55) rfl ?_
            refine g_iload (i := 4) (x := x4) hC (dX11_bestThing_57) rfl ?_
            refine g_icmp_le (tgt := 69) hC (dX11_bestThing_59) (by decide) (fun c59 => ?_) (fun c59 => ?_)
            · have h := wpO_t c59 h
              refine g_sub (lv' := [(0, .ref 0), (1, .int x1), (2, .ref x2), (3, .int x3), (4, .int x4), (5, .int x5)]) [1, 2, 3, 4, 5, 6] rfl ?_
              exact hJ3 _ _ _ (wpO_s h)
            · have h := wpO_f c59 h
              refine g_sub (lv' := [(0, .ref 0), (1, .int x1), (2, .ref x2), (5, .int x5), (6, .int r4)]) [1, 2, 3, 6, 0] rfl ?_
              exact hJ5 () h
      · have h := wpO_t c26 h
        refine g_goto (tgt := 69) hC (dX11_bestThing_29) (by decide) ?_
        exact hJ3 _ _ _ (wpO_s h)
set_option maxHeartbeats 4000000 in
theorem cX11_bestThing_ok {E : zE} {d : Nat} (hd : 3 ≤ d) (x1 : Int32) (x2 : Nat) (M : zM) {K : (Int32 × zM) → Prop} (h : wpO (fX11_bestThing x1 x2 M) K) : CMi E d yX11_bestThing cX11_bestThing 7 (some .int) [.ref 0, .int x1, .ref x2] M (fun r N => K (r, N)) := by
  refine CMi.of (by decide) (Nat.le_of_ble_eq_true rfl) (fun Γ hC hr => ?_)
  have hC : Cx E Γ RX11 cX11_bestThing 7 d := hC
  show G E Γ 7 0 [(0, .ref 0), (1, .int x1), (2, .ref x2)] [] M
  unfold fX11_bestThing at h
  refine g_iconst (v := (-1)) hC (dX11_bestThing_0) kc_m1 ?_
  refine g_istore_n (i := 3) (lv2 := [(3, .int (-1)), (0, .ref 0), (1, .int x1), (2, .ref x2)]) hC (dX11_bestThing_1) rfl (by decide) rfl ?_
  refine g_iconst (v := 0) hC (dX11_bestThing_2) kc_0 ?_
  refine g_istore (i := 4) (lv2 := [(4, .int 0), (3, .int (-1)), (0, .ref 0), (1, .int x1), (2, .ref x2)]) hC (dX11_bestThing_3) (by decide) rfl ?_
  refine g_iconst (v := 0) hC (dX11_bestThing_5) kc_0 ?_
  refine g_istore (i := 5) (lv2 := [(5, .int 0), (4, .int 0), (3, .int (-1)), (0, .ref 0), (1, .int x1), (2, .ref x2)]) hC (dX11_bestThing_6) (by decide) rfl ?_
  refine g_sub (lv' := [(0, .ref 0), (1, .int x1), (2, .ref x2), (3, .int (-1)), (4, .int 0), (5, .int 0)]) [3, 4, 5, 2, 1, 0] rfl ?_
  refine wpO_bJ h (fun KL8 hKL8 h => ?_)
  refine lX11_bestThing_8 (K1 := KL8) hC (by omega) x1 x2 (fun x3_75 M_75 h => ?_) _ _ _ _ _ h
  have h := hKL8 _ h
  have h := wpO_p h
  refine g_iload_n (i := 3) (x := x3_75) hC (dX11_bestThing_75) rfl rfl ?_
  refine g_ireturn hC hr (dX11_bestThing_76) ?_
  exact wpO_s h
/-! LostByState.handOut(LLostByState$Whereabouts;II)I -/
theorem dX11_handOut_0 : decode cX11_handOut 0 = .ok (.aload_n 0, 1) := by decide +kernel
theorem dX11_handOut_1 : decode cX11_handOut 1 = .ok (.iload_n 3, 1) := by decide +kernel
theorem dX11_handOut_2 : decode cX11_handOut 2 = .ok (.aload_n 1, 1) := by decide +kernel
theorem dX11_handOut_3 : decode cX11_handOut 3 = .ok (.invokevirtual 279, 3) := by decide +kernel
theorem dX11_handOut_6 : decode cX11_handOut 6 = .ok (.istore 4, 2) := by decide +kernel
theorem dX11_handOut_8 : decode cX11_handOut 8 = .ok (.iload 4, 2) := by decide +kernel
theorem dX11_handOut_10 : decode cX11_handOut 10 = .ok (.ifCond .ge 6, 3) := by decide +kernel
theorem dX11_handOut_13 : decode cX11_handOut 13 = .ok (.bipush (-2), 2) := by decide +kernel
theorem dX11_handOut_15 : decode cX11_handOut 15 = .ok (.ireturn, 1) := by decide +kernel
theorem dX11_handOut_16 : decode cX11_handOut 16 = .ok (.aload_n 1, 1) := by decide +kernel
theorem dX11_handOut_17 : decode cX11_handOut 17 = .ok (.iload 4, 2) := by decide +kernel
theorem dX11_handOut_19 : decode cX11_handOut 19 = .ok (.iload_n 2, 1) := by decide +kernel
theorem dX11_handOut_20 : decode cX11_handOut 20 = .ok (.invokevirtual 438, 3) := by decide +kernel
theorem dX11_handOut_23 : decode cX11_handOut 23 = .ok (.aload_n 1, 1) := by decide +kernel
theorem dX11_handOut_24 : decode cX11_handOut 24 = .ok (.sipush 9999, 3) := by decide +kernel
theorem dX11_handOut_27 : decode cX11_handOut 27 = .ok (.aload_n 1, 1) := by decide +kernel
theorem dX11_handOut_28 : decode cX11_handOut 28 = .ok (.getfield 397, 3) := by decide +kernel
theorem dX11_handOut_31 : decode cX11_handOut 31 = .ok (.aload_n 0, 1) := by decide +kernel
theorem dX11_handOut_32 : decode cX11_handOut 32 = .ok (.getfield 26, 3) := by decide +kernel
theorem dX11_handOut_35 : decode cX11_handOut 35 = .ok (.getfield 179, 3) := by decide +kernel
theorem dX11_handOut_38 : decode cX11_handOut 38 = .ok (.iload 4, 2) := by decide +kernel
theorem dX11_handOut_40 : decode cX11_handOut 40 = .ok (.iaload, 1) := by decide +kernel
theorem dX11_handOut_41 : decode cX11_handOut 41 = .ok (.iadd, 1) := by decide +kernel
theorem dX11_handOut_42 : decode cX11_handOut 42 = .ok (.invokestatic 410, 3) := by decide +kernel
theorem dX11_handOut_45 : decode cX11_handOut 45 = .ok (.putfield 397, 3) := by decide +kernel
theorem dX11_handOut_48 : decode cX11_handOut 48 = .ok (.iload 4, 2) := by decide +kernel
theorem dX11_handOut_50 : decode cX11_handOut 50 = .ok (.ireturn, 1) := by decide +kernel
def fX11_handOut (x1 : Nat) (x2 : Int32) (x3 : Int32) (M : zM) : Option (Int32 × zM) := (fX11_bestThing x3 x1 M).bind fun (q : Int32 × zM) => zp q fun r1 M3 =>
  if 0 ≤ r1 then (
  if zSH x1 = .inl 10 then (
  (fX10_putWith x1 r1 x2 M3).bind fun (M20 : zM) =>
  if zin r1 8 then (
  zlet (zSI M20 x1 5 (zmin 9999 ((M20.1 x1 5) + (M20.1 7 r1.toNatClampNeg)))) fun (M45 : zM) =>
  some (r1, M45)) else none) else none)
  else (
  some ((-2), M3))
set_option maxHeartbeats 4000000 in
theorem cX11_handOut_ok {E : zE} {d : Nat} (hd : 4 ≤ d) (x1 : Nat) (x2 : Int32) (x3 : Int32) (M : zM) {K : (Int32 × zM) → Prop} (h : wpO (fX11_handOut x1 x2 x3 M) K) : CMi E d yX11_handOut cX11_handOut 5 (some .int) [.ref 0, .ref x1, .int x2, .int x3] M (fun r N => K (r, N)) := by
  refine CMi.of (by decide) (Nat.le_of_ble_eq_true rfl) (fun Γ hC hr => ?_)
  have hC : Cx E Γ RX11 cX11_handOut 5 d := hC
  show G E Γ 5 0 [(0, .ref 0), (1, .ref x1), (2, .int x2), (3, .int x3)] [] M
  unfold fX11_handOut at h
  refine g_aload_n (i := 0) (x := 0) hC (dX11_handOut_0) rfl rfl ?_
  refine g_iload_n (i := 3) (x := x3) hC (dX11_handOut_1) rfl rfl ?_
  refine g_aload_n (i := 1) (x := x1) hC (dX11_handOut_2) rfl rfl ?_
  have h := wpO_b h
  refine g_callVi ([.int x3, .ref x1]) hC wvX11_279 (dX11_handOut_3) rfl rfl (by omega) (Nat.le_of_ble_eq_true rfl) (cX11_bestThing_ok (by omega) x3 x1 M h) (fun r1 M3 h => ?_)
  have h := wpO_p h
  refine g_istore (i := 4) (lv2 := [(4, .int r1), (0, .ref 0), (1, .ref x1), (2, .int x2), (3, .int x3)]) hC (dX11_handOut_6) (by decide) rfl ?_
  refine g_iload (i := 4) (x := r1) hC (dX11_handOut_8) rfl ?_
  refine g_if_ge (tgt := 16) hC (dX11_handOut_10) (by decide) (fun c10 => ?_) (fun c10 => ?_)
  · have h := wpO_t c10 h
    refine g_aload_n (i := 1) (x := x1) hC (dX11_handOut_16) rfl rfl ?_
    refine g_iload (i := 4) (x := r1) hC (dX11_handOut_17) rfl ?_
    refine g_iload_n (i := 2) (x := x2) hC (dX11_handOut_19) rfl rfl ?_
    obtain ⟨q2, h⟩ := wpO_g h
    have h := wpO_b h
    refine g_callVv ([.int r1, .int x2]) hC wvX11_438 (dX11_handOut_20) q2 rfl (by omega) (Nat.le_of_ble_eq_true rfl) (cX10_putWith_ok (by omega) x1 r1 x2 M3 h) (fun M20 h => ?_)
    refine g_aload_n (i := 1) (x := x1) hC (dX11_handOut_23) rfl rfl ?_
    refine g_sipush (v := 9999) hC (dX11_handOut_24) ks_9999 ?_
    refine g_aload_n (i := 1) (x := x1) hC (dX11_handOut_27) rfl rfl ?_
    refine g_getI hC flX11_397 (dX11_handOut_28) q2 rfl ?_
    refine g_aload_n (i := 0) (x := 0) hC (dX11_handOut_31) rfl rfl ?_
    refine g_getR (r := 5) hC flX11_26 (dX11_handOut_32) rfl rfl rfl ?_
    refine g_getR (r := 7) hC flX11_179 (dX11_handOut_35) rfl rfl rfl ?_
    refine g_iload (i := 4) (x := r1) hC (dX11_handOut_38) rfl ?_
    obtain ⟨q4, h⟩ := wpO_g h
    refine g_iaload (n := 8) hC (dX11_handOut_40) rfl q4 ?_
    refine g_iadd hC (dX11_handOut_41) ?_
    refine g_min hC wmX11_410 (dX11_handOut_42) (by omega) (Nat.le_of_ble_eq_true rfl) ?_
    refine g_putI hC fpX11_397 (dX11_handOut_45) q2 rfl rfl rfl ?_
    refine g_nmM (fun M45 e_M45 => ?_)
    have h := wpO_n e_M45 h
    refine g_iload (i := 4) (x := r1) hC (dX11_handOut_48) rfl ?_
    refine g_ireturn hC hr (dX11_handOut_50) ?_
    exact wpO_s h
  · have h := wpO_f c10 h
    refine g_bipush (v := (-2)) hC (dX11_handOut_13) kb_m2 ?_
    refine g_ireturn hC hr (dX11_handOut_15) ?_
    exact wpO_s h
/-! LostByState.isSpan(I)Z -/
theorem dX11_isSpan_0 : decode cX11_isSpan 0 = .ok (.iload_n 0, 1) := by decide +kernel
theorem dX11_isSpan_1 : decode cX11_isSpan 1 = .ok (.ifCond .lt 13, 3) := by decide +kernel
theorem dX11_isSpan_4 : decode cX11_isSpan 4 = .ok (.iload_n 0, 1) := by decide +kernel
theorem dX11_isSpan_5 : decode cX11_isSpan 5 = .ok (.bipush 99, 2) := by decide +kernel
theorem dX11_isSpan_7 : decode cX11_isSpan 7 = .ok (.if_icmp .gt 7, 3) := by decide +kernel
theorem dX11_isSpan_10 : decode cX11_isSpan 10 = .ok (.iconst 1, 1) := by decide +kernel
theorem dX11_isSpan_11 : decode cX11_isSpan 11 = .ok (.goto 4, 3) := by decide +kernel
theorem dX11_isSpan_14 : decode cX11_isSpan 14 = .ok (.iconst 0, 1) := by decide +kernel
theorem dX11_isSpan_15 : decode cX11_isSpan 15 = .ok (.ireturn, 1) := by decide +kernel
def fX11_isSpan (x0 : Int32) : Int32 := if x0 < 0 then (
  0)
  else (
  if 99 < x0 then (
  0)
  else (
  1))
theorem bX11_isSpan (x0 : Int32) : fX11_isSpan x0 = 0 ∨ fX11_isSpan x0 = 1 := by
  unfold fX11_isSpan
  try simp only [zlet, zp, zj]
  repeat' split
  all_goals first | exact Or.inl rfl | exact Or.inr rfl | (simp; done)
set_option maxHeartbeats 4000000 in
theorem cX11_isSpan_ok {E : zE} {d : Nat} (hd : 0 ≤ d) (x0 : Int32) (M : zM) {K : Int32 → Prop} (h : wpI (fX11_isSpan x0) K) : CMi E d yX11_isSpan cX11_isSpan 1 (some .boolean) [.int x0] M (fun r N => M = N ∧ K r) := by
  refine CMi.of (by decide) (Nat.le_of_ble_eq_true rfl) (fun Γ hC hr => ?_)
  have hC : Cx E Γ RX11 cX11_isSpan 1 d := hC
  show G E Γ 1 0 [(0, .int x0)] [] M
  unfold fX11_isSpan at h
  refine g_iload_n (i := 0) (x := x0) hC (dX11_isSpan_0) rfl rfl ?_
  refine g_if_lt (tgt := 14) hC (dX11_isSpan_1) (by decide) (fun c1 => ?_) (fun c1 => ?_)
  · have h := wpI_t c1 h
    refine g_iconst (v := 0) hC (dX11_isSpan_14) kc_0 ?_
    refine g_zreturn hC hr (dX11_isSpan_15) (Or.inl rfl) ?_
    exact ⟨rfl, wpI_s h⟩
  · have h := wpI_f c1 h
    refine g_iload_n (i := 0) (x := x0) hC (dX11_isSpan_4) rfl rfl ?_
    refine g_bipush (v := 99) hC (dX11_isSpan_5) kb_99 ?_
    refine g_icmp_gt (tgt := 14) hC (dX11_isSpan_7) (by decide) (fun c7 => ?_) (fun c7 => ?_)
    · have h := wpI_t c7 h
      refine g_iconst (v := 0) hC (dX11_isSpan_14) kc_0 ?_
      refine g_zreturn hC hr (dX11_isSpan_15) (Or.inl rfl) ?_
      exact ⟨rfl, wpI_s h⟩
    · have h := wpI_f c7 h
      refine g_iconst (v := 1) hC (dX11_isSpan_10) kc_1 ?_
      refine g_goto (tgt := 15) hC (dX11_isSpan_11) (by decide) ?_
      refine g_zreturn hC hr (dX11_isSpan_15) (Or.inr rfl) ?_
      exact ⟨rfl, wpI_s h⟩
