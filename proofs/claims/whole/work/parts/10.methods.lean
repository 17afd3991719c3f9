/-! LostByState$Text.signAt(I)I -/
theorem dX9_signAt_0 : decode cX9_signAt 0 = .ok (.iload_n 1, 1) := by decide +kernel
theorem dX9_signAt_1 : decode cX9_signAt 1 = .ok (.ifCond .lt 20, 3) := by decide +kernel
theorem dX9_signAt_4 : decode cX9_signAt 4 = .ok (.iload_n 1, 1) := by decide +kernel
theorem dX9_signAt_5 : decode cX9_signAt 5 = .ok (.aload_n 0, 1) := by decide +kernel
theorem dX9_signAt_6 : decode cX9_signAt 6 = .ok (.getfield 15, 3) := by decide +kernel
theorem dX9_signAt_9 : decode cX9_signAt 9 = .ok (.if_icmp .ge 12, 3) := by decide +kernel
theorem dX9_signAt_12 : decode cX9_signAt 12 = .ok (.aload_n 0, 1) := by decide +kernel
theorem dX9_signAt_13 : decode cX9_signAt 13 = .ok (.getfield 9, 3) := by decide +kernel
theorem dX9_signAt_16 : decode cX9_signAt 16 = .ok (.iload_n 1, 1) := by decide +kernel
theorem dX9_signAt_17 : decode cX9_signAt 17 = .ok (.iaload, 1) := by decide +kernel
theorem dX9_signAt_18 : decode cX9_signAt 18 = .ok (.goto 4, 3) := by decide +kernel
theorem dX9_signAt_21 : decode cX9_signAt 21 = .ok (.iconst (-1), 1) := by decide +kernel
theorem dX9_signAt_22 : decode cX9_signAt 22 = .ok (.ireturn, 1) := by decide +kernel
def fX9_signAt (x1 : Int32) (M : zM) : Option Int32 := if x1 < 0 then (
  some (-1))
  else (
  if (M.1 1 1) ≤ x1 then (
  some (-1))
  else (
  if zin x1 80 then (
  some (M.1 2 x1.toNatClampNeg)) else none))
set_option maxHeartbeats 4000000 in
theorem cX9_signAt_ok {E : zE} {d : Nat} (hd : 0 ≤ d) (x1 : Int32) (M : zM) {K : Int32 → Prop} (h : wpO (fX9_signAt x1 M) K) : CMi E d yX9_signAt cX9_signAt 2 (some .int) [.ref 1, .int x1] M (fun r N => M = N ∧ K r) := by
  refine CMi.of (by decide) (Nat.le_of_ble_eq_true rfl) (fun Γ hC hr => ?_)
  have hC : Cx E Γ RX9 cX9_signAt 2 d := hC
  show G E Γ 2 0 [(0, .ref 1), (1, .int x1)] [] M
  unfold fX9_signAt at h
  refine g_iload_n (i := 1) (x := x1) hC (dX9_signAt_0) rfl rfl ?_
  refine g_if_lt (tgt := 21) hC (dX9_signAt_1) (by decide) (fun c1 => ?_) (fun c1 => ?_)
  · have h := wpO_t c1 h
    refine g_iconst (v := (-1)) hC (dX9_signAt_21) kc_m1 ?_
    refine g_ireturn hC hr (dX9_signAt_22) ?_
    exact ⟨rfl, wpO_s h⟩
  · have h := wpO_f c1 h
    refine g_iload_n (i := 1) (x := x1) hC (dX9_signAt_4) rfl rfl ?_
    refine g_aload_n (i := 0) (x := 1) hC (dX9_signAt_5) rfl rfl ?_
    refine g_getI hC flX9_15 (dX9_signAt_6) rfl rfl ?_
    refine g_icmp_ge (tgt := 21) hC (dX9_signAt_9) (by decide) (fun c9 => ?_) (fun c9 => ?_)
    · have h := wpO_t c9 h
      refine g_iconst (v := (-1)) hC (dX9_signAt_21) kc_m1 ?_
      refine g_ireturn hC hr (dX9_signAt_22) ?_
      exact ⟨rfl, wpO_s h⟩
    · have h := wpO_f c9 h
      refine g_aload_n (i := 0) (x := 1) hC (dX9_signAt_12) rfl rfl ?_
      refine g_getR (r := 2) hC flX9_9 (dX9_signAt_13) rfl rfl rfl ?_
      refine g_iload_n (i := 1) (x := x1) hC (dX9_signAt_16) rfl rfl ?_
      obtain ⟨q1, h⟩ := wpO_g h
      refine g_iaload (n := 80) hC (dX9_signAt_17) rfl q1 ?_
      refine g_goto (tgt := 22) hC (dX9_signAt_18) (by decide) ?_
      refine g_ireturn hC hr (dX9_signAt_22) ?_
      exact ⟨rfl, wpO_s h⟩
/-! LostByState$Acts.digitsOf(I)I -/
theorem dX0_digitsOf_0 : decode cX0_digitsOf 0 = .ok (.iload_n 0, 1) := by decide +kernel
theorem dX0_digitsOf_1 : decode cX0_digitsOf 1 = .ok (.tableswitch 59 99 108 #[57, 57, 59, 55, 55, 59, 59, 59, 59, 55], 55) := by decide +kernel
theorem dX0_digitsOf_56 : decode cX0_digitsOf 56 = .ok (.iconst 2, 1) := by decide +kernel
theorem dX0_digitsOf_57 : decode cX0_digitsOf 57 = .ok (.ireturn, 1) := by decide +kernel
theorem dX0_digitsOf_58 : decode cX0_digitsOf 58 = .ok (.iconst 1, 1) := by decide +kernel
theorem dX0_digitsOf_59 : decode cX0_digitsOf 59 = .ok (.ireturn, 1) := by decide +kernel
theorem dX0_digitsOf_60 : decode cX0_digitsOf 60 = .ok (.iconst 0, 1) := by decide +kernel
theorem dX0_digitsOf_61 : decode cX0_digitsOf 61 = .ok (.ireturn, 1) := by decide +kernel
def fX0_digitsOf (x0 : Int32) : Int32 := if x0 = 99 then (
  1)
  else (
  if x0 = 100 then (
  1)
  else (
  if x0 = 101 then (
  0)
  else (
  if x0 = 102 then (
  2)
  else (
  if x0 = 103 then (
  2)
  else (
  if x0 = 104 then (
  0)
  else (
  if x0 = 105 then (
  0)
  else (
  if x0 = 106 then (
  0)
  else (
  if x0 = 107 then (
  0)
  else (
  if x0 = 108 then (
  2)
  else (
  0))))))))))
set_option maxHeartbeats 4000000 in
theorem cX0_digitsOf_ok {E : zE} {d : Nat} (hd : 0 ≤ d) (x0 : Int32) (M : zM) {K : Int32 → Prop} (h : wpI (fX0_digitsOf x0) K) : CMi E d yX0_digitsOf cX0_digitsOf 1 (some .int) [.int x0] M (fun r N => M = N ∧ K r) := by
  refine CMi.of (by decide) (Nat.le_of_ble_eq_true rfl) (fun Γ hC hr => ?_)
  have hC : Cx E Γ RX0 cX0_digitsOf 1 d := hC
  show G E Γ 1 0 [(0, .int x0)] [] M
  unfold fX0_digitsOf at h
  refine g_iload_n (i := 0) (x := x0) hC (dX0_digitsOf_0) rfl rfl ?_
  rcases Decidable.em (x0 = 99) with c1_99 | c1_99
  · have h := wpI_t c1_99 h
    refine g_tswIn (tgt := 58) (off := 57) hC (dX0_digitsOf_1) 99 c1_99 (by decide +kernel) (by decide +kernel) (by decide +kernel) (by decide +kernel) ?_
    refine g_iconst (v := 1) hC (dX0_digitsOf_58) kc_1 ?_
    refine g_ireturn hC hr (dX0_digitsOf_59) ?_
    exact ⟨rfl, wpI_s h⟩
  · have h := wpI_f c1_99 h
    rcases Decidable.em (x0 = 100) with c1_100 | c1_100
    · have h := wpI_t c1_100 h
      refine g_tswIn (tgt := 58) (off := 57) hC (dX0_digitsOf_1) 100 c1_100 (by decide +kernel) (by decide +kernel) (by decide +kernel) (by decide +kernel) ?_
      refine g_iconst (v := 1) hC (dX0_digitsOf_58) kc_1 ?_
      refine g_ireturn hC hr (dX0_digitsOf_59) ?_
      exact ⟨rfl, wpI_s h⟩
    · have h := wpI_f c1_100 h
      rcases Decidable.em (x0 = 101) with c1_101 | c1_101
      · have h := wpI_t c1_101 h
        refine g_tswIn (tgt := 60) (off := 59) hC (dX0_digitsOf_1) 101 c1_101 (by decide +kernel) (by decide +kernel) (by decide +kernel) (by decide +kernel) ?_
        refine g_iconst (v := 0) hC (dX0_digitsOf_60) kc_0 ?_
        refine g_ireturn hC hr (dX0_digitsOf_61) ?_
        exact ⟨rfl, wpI_s h⟩
      · have h := wpI_f c1_101 h
        rcases Decidable.em (x0 = 102) with c1_102 | c1_102
        · have h := wpI_t c1_102 h
          refine g_tswIn (tgt := 56) (off := 55) hC (dX0_digitsOf_1) 102 c1_102 (by decide +kernel) (by decide +kernel) (by decide +kernel) (by decide +kernel) ?_
          refine g_iconst (v := 2) hC (dX0_digitsOf_56) kc_2 ?_
          refine g_ireturn hC hr (dX0_digitsOf_57) ?_
          exact ⟨rfl, wpI_s h⟩
        · have h := wpI_f c1_102 h
          rcases Decidable.em (x0 = 103) with c1_103 | c1_103
          · have h := wpI_t c1_103 h
            refine g_tswIn (tgt := 56) (off := 55) hC (dX0_digitsOf_1) 103 c1_103 (by decide +kernel) (by decide +kernel) (by decide +kernel) (by decide +kernel) ?_
            refine g_iconst (v := 2) hC (dX0_digitsOf_56) kc_2 ?_
            refine g_ireturn hC hr (dX0_digitsOf_57) ?_
            exact ⟨rfl, wpI_s h⟩
          · have h := wpI_f c1_103 h
            rcases Decidable.em (x0 = 104) with c1_104 | c1_104
            · have h := wpI_t c1_104 h
              refine g_tswIn (tgt := 60) (off := 59) hC (dX0_digitsOf_1) 104 c1_104 (by decide +kernel) (by decide +kernel) (by decide +kernel) (by decide +kernel) ?_
              refine g_iconst (v := 0) hC (dX0_digitsOf_60) kc_0 ?_
              refine g_ireturn hC hr (dX0_digitsOf_61) ?_
              exact ⟨rfl, wpI_s h⟩
            · have h := wpI_f c1_104 h
              rcases Decidable.em (x0 = 105) with c1_105 | c1_105
              · have h := wpI_t c1_105 h
                refine g_tswIn (tgt := 60) (off := 59) hC (dX0_digitsOf_1) 105 c1_105 (by decide +kernel) (by decide +kernel) (by decide +kernel) (by decide +kernel) ?_
                refine g_iconst (v := 0) hC (dX0_digitsOf_60) kc_0 ?_
                refine g_ireturn hC hr (dX0_digitsOf_61) ?_
                exact ⟨rfl, wpI_s h⟩
              · have h := wpI_f c1_105 h
                rcases Decidable.em (x0 = 106) with c1_106 | c1_106
                · have h := wpI_t c1_106 h
                  refine g_tswIn (tgt := 60) (off := 59) hC (dX0_digitsOf_1) 106 c1_106 (by decide +kernel) (by decide +kernel) (by decide +kernel) (by decide +kernel) ?_
                  refine g_iconst (v := 0) hC (dX0_digitsOf_60) kc_0 ?_
                  refine g_ireturn hC hr (dX0_digitsOf_61) ?_
                  exact ⟨rfl, wpI_s h⟩
                · have h := wpI_f c1_106 h
                  rcases Decidable.em (x0 = 107) with c1_107 | c1_107
                  · have h := wpI_t c1_107 h
                    refine g_tswIn (tgt := 60) (off := 59) hC (dX0_digitsOf_1) 107 c1_107 (by decide +kernel) (by decide +kernel) (by decide +kernel) (by decide +kernel) ?_
                    refine g_iconst (v := 0) hC (dX0_digitsOf_60) kc_0 ?_
                    refine g_ireturn hC hr (dX0_digitsOf_61) ?_
                    exact ⟨rfl, wpI_s h⟩
                  · have h := wpI_f c1_107 h
                    rcases Decidable.em (x0 = 108) with c1_108 | c1_108
                    · have h := wpI_t c1_108 h
                      refine g_tswIn (tgt := 56) (off := 55) hC (dX0_digitsOf_1) 108 c1_108 (by decide +kernel) (by decide +kernel) (by decide +kernel) (by decide +kernel) ?_
                      refine g_iconst (v := 2) hC (dX0_digitsOf_56) kc_2 ?_
                      refine g_ireturn hC hr (dX0_digitsOf_57) ?_
                      exact ⟨rfl, wpI_s h⟩
                    · have h := wpI_f c1_108 h
                      have zc1_99 : ¬ (x0).toInt = 99 := fun z => c1_99 (Int32.toInt_inj.mp (z.trans (by decide +kernel)))
                      have zc1_100 : ¬ (x0).toInt = 100 := fun z => c1_100 (Int32.toInt_inj.mp (z.trans (by decide +kernel)))
                      have zc1_101 : ¬ (x0).toInt = 101 := fun z => c1_101 (Int32.toInt_inj.mp (z.trans (by decide +kernel)))
                      have zc1_102 : ¬ (x0).toInt = 102 := fun z => c1_102 (Int32.toInt_inj.mp (z.trans (by decide +kernel)))
                      have zc1_103 : ¬ (x0).toInt = 103 := fun z => c1_103 (Int32.toInt_inj.mp (z.trans (by decide +kernel)))
                      have zc1_104 : ¬ (x0).toInt = 104 := fun z => c1_104 (Int32.toInt_inj.mp (z.trans (by decide +kernel)))
                      have zc1_105 : ¬ (x0).toInt = 105 := fun z => c1_105 (Int32.toInt_inj.mp (z.trans (by decide +kernel)))
                      have zc1_106 : ¬ (x0).toInt = 106 := fun z => c1_106 (Int32.toInt_inj.mp (z.trans (by decide +kernel)))
                      have zc1_107 : ¬ (x0).toInt = 107 := fun z => c1_107 (Int32.toInt_inj.mp (z.trans (by decide +kernel)))
                      have zc1_108 : ¬ (x0).toInt = 108 := fun z => c1_108 (Int32.toInt_inj.mp (z.trans (by decide +kernel)))
                      refine g_tswOut (tgt := 60) hC (dX0_digitsOf_1) (by omega) (by decide +kernel) ?_
                      refine g_iconst (v := 0) hC (dX0_digitsOf_60) kc_0 ?_
                      refine g_ireturn hC hr (dX0_digitsOf_61) ?_
                      exact ⟨rfl, wpI_s h⟩
/-! LostByState$Acts.readMarks(LLostByState$Text;II)I -/
theorem dX0_readMarks_0 : decode cX0_readMarks 0 = .ok (.iconst 0, 1) := by decide +kernel
theorem dX0_readMarks_1 : decode cX0_readMarks 1 = .ok (.istore_n 3, 1) := by decide +kernel
theorem dX0_readMarks_2 : decode cX0_readMarks 2 = .ok (.iconst (-1), 1) := by decide +kernel
theorem dX0_readMarks_3 : decode cX0_readMarks 3 = .ok (.istore 4, 2) := by decide +kernel
theorem dX0_readMarks_5 : decode cX0_readMarks 5 = .ok (.iload_n 1, 1) := by decide +kernel
theorem dX0_readMarks_6 : decode cX0_readMarks 6 = .ok (.istore 5, 2) := by decide +kernel
theorem dX0_readMarks_8 : decode cX0_readMarks 8 = .ok (.iload 5, 2) := by decide +kernel
theorem dX0_readMarks_10 : decode cX0_readMarks 10 = .ok (.iload_n 2, 1) := by decide +kernel
theorem dX0_readMarks_11 : decode cX0_readMarks 11 = .ok (.if_icmp .ge 47, 3) := by decide +kernel
theorem dX0_readMarks_14 : decode cX0_readMarks 14 = .ok (.aload_n 0, 1) := by decide +kernel
theorem dX0_readMarks_15 : decode cX0_readMarks 15 = .ok (.iload 5, 2) := by decide +kernel
theorem dX0_readMarks_17 : decode cX0_readMarks 17 = .ok (.invokevirtual 36, 3) := by decide +kernel
theorem dX0_readMarks_20 : decode cX0_readMarks 20 = .ok (.bipush 97, 2) := by decide +kernel
theorem dX0_readMarks_22 : decode cX0_readMarks 22 = .ok (.isub, 1) := by decide +kernel
theorem dX0_readMarks_23 : decode cX0_readMarks 23 = .ok (.istore 6, 2) := by decide +kernel
theorem dX0_readMarks_25 : decode cX0_readMarks 25 = .ok (.iload 6, 2) := by decide +kernel
theorem dX0_readMarks_27 : decode cX0_readMarks 27 = .ok (.iload 4, 2) := by decide +kernel
theorem dX0_readMarks_29 : decode cX0_readMarks 29 = .ok (.if_icmp .le 10, 3) := by decide +kernel
theorem dX0_readMarks_32 : decode cX0_readMarks 32 = .ok (.iload 6, 2) := by decide +kernel
theorem dX0_readMarks_34 : decode cX0_readMarks 34 = .ok (.bipush 8, 2) := by decide +kernel
theorem dX0_readMarks_36 : decode cX0_readMarks 36 = .ok (.if_icmp .lt 5, 3) := by decide +kernel
theorem dX0_readMarks_39 : decode cX0_readMarks 39 = .ok (.iload_n 3, 1) := by decide +kernel
theorem dX0_readMarks_40 : decode cX0_readMarks 40 = .ok (.ireturn, 1) := by decide +kernel
theorem dX0_readMarks_41 : decode cX0_readMarks 41 = .ok (.iload_n 3, 1) := by decide +kernel
theorem dX0_readMarks_42 : decode cX0_readMarks 42 = .ok (.iconst 1, 1) := by decide +kernel
theorem dX0_readMarks_43 : decode cX0_readMarks 43 = .ok (.iload 6, 2) := by decide +kernel
theorem dX0_readMarks_45 : decode cX0_readMarks 45 = .ok (.ishl, 1) := by decide +kernel
theorem dX0_readMarks_46 : decode cX0_readMarks 46 = .ok (.ior, 1) := by decide +kernel
theorem dX0_readMarks_47 : decode cX0_readMarks 47 = .ok (.istore_n 3, 1) := by decide +kernel
theorem dX0_readMarks_48 : decode cX0_readMarks 48 = .ok (.iload 6, 2) := by decide +kernel
theorem dX0_readMarks_50 : decode cX0_readMarks 50 = .ok (.istore 4, 2) := by decide +kernel
theorem dX0_readMarks_52 : decode cX0_readMarks 52 = .ok (.iinc 5 1, 3) := by decide +kernel
theorem dX0_readMarks_55 : decode cX0_readMarks 55 = .ok (.goto (-47), 3) := by decide +kernel
theorem dX0_readMarks_58 : decode cX0_readMarks 58 = .ok (.iload_n 3, 1) := by decide +kernel
theorem dX0_readMarks_59 : decode cX0_readMarks 59 = .ok (.ireturn, 1) := by decide +kernel
def fX0_readMarks_L8 (x2 : Int32) (M : zM) : Nat → Int32 → Int32 → Int32 → Option (Int32 ⊕ Int32)
  | 0, _, _, _ => none
  | n + 1, x3, x4, x5 => if x2 ≤ x5 then (
    some (.inr x3))
    else (
    (fX9_signAt x5 M).bind fun (r1 : Int32) =>
    zlet (r1 - 97) fun (x6_23 : Int32) =>
    if x6_23 ≤ x4 then (
    some (.inl x3))
    else (
    if x6_23 < 8 then (
    zlet (x3 ||| (zshl 1 x6_23)) fun (x3_47 : Int32) =>
    fX0_readMarks_L8 x2 M n x3_47 x6_23 (x5 + 1))
    else (
    some (.inl x3))))
def fX0_readMarks (x1 : Int32) (x2 : Int32) (M : zM) : Option Int32 := (fX0_readMarks_L8 x2 M 4000 0 (-1) x1).bind fun q => zs q (fun r => some r)
  (fun (x3_58 : Int32) =>
  some x3_58)
set_option maxHeartbeats 4000000 in
theorem lX0_readMarks_8 {E : zE} {Γ : zT} {d : Nat} {K1 : (Int32 ⊕ Int32) → Prop} (hC : Cx E Γ RX0 cX0_readMarks 7 d) {post : Int32 → zM → Prop} (hr : zRi E Γ (some .int) post) (hd : 1 ≤ d) (x2 : Int32) (M : zM) (hret : ∀ r : Int32, K1 (.inl r) → post r M) (hx : ∀ (x3_58 : Int32), K1 (.inr x3_58) → G E Γ 7 58 [(3, .int x3_58)] [] M) :
    ∀ (n : Nat) (x3 : Int32) (x4 : Int32) (x5 : Int32), wpO (fX0_readMarks_L8 x2 M n x3 x4 x5) K1 → G E Γ 7 8 [(0, .ref 1), (2, .int x2), (3, .int x3), (4, .int x4), (5, .int x5)] [] M := by
  intro n
  induction n with
  | zero =>
    intro x3 x4 x5 h
    exact (wpO_0 h).elim
  | succ n ih =>
    intro x3 x4 x5 h
    rw [fX0_readMarks_L8.eq_2] at h
    refine g_iload (i := 5) (x := x5) hC (dX0_readMarks_8) rfl ?_
    refine g_iload_n (i := 2) (x := x2) hC (dX0_readMarks_10) rfl rfl ?_
    refine g_icmp_ge (tgt := 58) hC (dX0_readMarks_11) (by decide) (fun c11 => ?_) (fun c11 => ?_)
    · have h := wpO_t c11 h
      refine g_sub (lv' := [(3, .int x3)]) [2] rfl ?_
      exact hx _ (wpO_s h)
    · have h := wpO_f c11 h
      refine g_aload_n (i := 0) (x := 1) hC (dX0_readMarks_14) rfl rfl ?_
      refine g_iload (i := 5) (x := x5) hC (dX0_readMarks_15) rfl ?_
      have h := wpO_b h
      refine g_callVi ([.int x5]) hC wvX0_36 (dX0_readMarks_17) rfl rfl (by omega) (Nat.le_of_ble_eq_true rfl) (cX9_signAt_ok (by omega) x5 M h) (fun r1 N q => ?_)
      obtain ⟨rfl, h⟩ := q
      refine g_bipush (v := 97) hC (dX0_readMarks_20) kb_97 ?_
      refine g_isub hC (dX0_readMarks_22) ?_
      refine g_nmi (fun x6_23 e_x6_23 => ?_)
      have h := wpO_n e_x6_23 h
      refine g_istore (i := 6) (lv2 := [(6, .int x6_23), (0, .ref 1), (2, .int x2), (3, .int x3), (4, .int x4), (5, .int x5)]) hC (dX0_readMarks_23) (by decide) rfl ?_
      refine g_iload (i := 6) (x := x6_23) hC (dX0_readMarks_25) rfl ?_
      refine g_iload (i := 4) (x := x4) hC (dX0_readMarks_27) rfl ?_
      refine g_icmp_le (tgt := 39) hC (dX0_readMarks_29) (by decide) (fun c29 => ?_) (fun c29 => ?_)
      · have h := wpO_t c29 h
        refine g_iload_n (i := 3) (x := x3) hC (dX0_readMarks_39) rfl rfl ?_
        refine g_ireturn hC hr (dX0_readMarks_40) ?_
        exact hret _ (wpO_s h)
      · have h := wpO_f c29 h
        refine g_iload (i := 6) (x := x6_23) hC (dX0_readMarks_32) rfl ?_
        refine g_bipush (v := 8) hC (dX0_readMarks_34) kb_8 ?_
        refine g_icmp_lt (tgt := 41) hC (dX0_readMarks_36) (by decide) (fun c36 => ?_) (fun c36 => ?_)
        · have h := wpO_t c36 h
          refine g_iload_n (i := 3) (x := x3) hC (dX0_readMarks_41) rfl rfl ?_
          refine g_iconst (v := 1) hC (dX0_readMarks_42) kc_1 ?_
          refine g_iload (i := 6) (x := x6_23) hC (dX0_readMarks_43) rfl ?_
          refine g_ishl hC (dX0_readMarks_45) ?_
          refine g_ior hC (dX0_readMarks_46) ?_
          refine g_nmi (fun x3_47 e_x3_47 => ?_)
          have h := wpO_n e_x3_47 h
          refine g_istore_n (i := 3) (lv2 := [(3, .int x3_47), (6, .int x6_23), (0, .ref 1), (2, .int x2), (4, .int x4), (5, .int x5)]) hC (dX0_readMarks_47) rfl (by decide) rfl ?_
          refine g_iload (i := 6) (x := x6_23) hC (dX0_readMarks_48) rfl ?_
          refine g_istore (i := 4) (lv2 := [(4, .int x6_23), (3, .int x3_47), (6, .int x6_23), (0, .ref 1), (2, .int x2), (5, .int x5)]) hC (dX0_readMarks_50) (by decide) rfl ?_
          refine g_iinc (x := x5) (v := (x5 + 1)) (lv2 := [(5, .int (x5 + 1)), (4, .int x6_23), (3, .int x3_47), (6, .int x6_23), (0, .ref 1), (2, .int x2)]) hC (dX0_readMarks_52) rfl rfl (by decide) rfl ?_
          refine g_goto (tgt := 8) hC (dX0_readMarks_55) (by decide) ?_
          refine g_sub (lv' := [(0, .ref 1), (2, .int x2), (3, .int x3_47), (4, .int x6_23), (5, .int (x5 + 1))]) [4, 5, 2, 1, 0] rfl ?_
          exact ih _ _ _ h
        · have h := wpO_f c36 h
          refine g_iload_n (i := 3) (x := x3) hC (dX0_readMarks_39) rfl rfl ?_
          refine g_ireturn hC hr (dX0_readMarks_40) ?_
          exact hret _ (wpO_s h)
set_option maxHeartbeats 4000000 in
theorem cX0_readMarks_ok {E : zE} {d : Nat} (hd : 1 ≤ d) (x1 : Int32) (x2 : Int32) (M : zM) {K : Int32 → Prop} (h : wpO (fX0_readMarks x1 x2 M) K) : CMi E d yX0_readMarks cX0_readMarks 7 (some .int) [.ref 1, .int x1, .int x2] M (fun r N => M = N ∧ K r) := by
  refine CMi.of (by decide) (Nat.le_of_ble_eq_true rfl) (fun Γ hC hr => ?_)
  have hC : Cx E Γ RX0 cX0_readMarks 7 d := hC
  show G E Γ 7 0 [(0, .ref 1), (1, .int x1), (2, .int x2)] [] M
  unfold fX0_readMarks at h
  refine g_iconst (v := 0) hC (dX0_readMarks_0) kc_0 ?_
  refine g_istore_n (i := 3) (lv2 := [(3, .int 0), (0, .ref 1), (1, .int x1), (2, .int x2)]) hC (dX0_readMarks_1) rfl (by decide) rfl ?_
  refine g_iconst (v := (-1)) hC (dX0_readMarks_2) kc_m1 ?_
  refine g_istore (i := 4) (lv2 := [(4, .int (-1)), (3, .int 0), (0, .ref 1), (1, .int x1), (2, .int x2)]) hC (dX0_readMarks_3) (by decide) rfl ?_
  refine g_iload_n (i := 1) (x := x1) hC (dX0_readMarks_5) rfl rfl ?_
  refine g_istore (i := 5) (lv2 := [(5, .int x1), (4, .int (-1)), (3, .int 0), (0, .ref 1), (1, .int x1), (2, .int x2)]) hC (dX0_readMarks_6) (by decide) rfl ?_
  refine g_sub (lv' := [(0, .ref 1), (2, .int x2), (3, .int 0), (4, .int (-1)), (5, .int x1)]) [3, 5, 2, 1, 0] rfl ?_
  refine wpO_bJ h (fun KL8 hKL8 h => ?_)
  refine lX0_readMarks_8 (K1 := KL8) hC hr (by omega) x2 M (fun r h => ?_) (fun x3_58 h => ?_) _ _ _ _ h
  · have h := wpO_i (hKL8 _ h)
    exact ⟨rfl, wpO_s h⟩
  · have h := wpO_r (hKL8 _ h)
    refine g_iload_n (i := 3) (x := x3_58) hC (dX0_readMarks_58) rfl rfl ?_
    refine g_ireturn hC hr (dX0_readMarks_59) ?_
    exact ⟨rfl, wpO_s h⟩
/-! java/lang/Integer.bitCount(I)I -/
theorem dJ6_bitCount_0f7a4_0 : decode cJ6_bitCount_0f7a4 0 = .ok (.iload_n 0, 1) := by decide +kernel
theorem dJ6_bitCount_0f7a4_1 : decode cJ6_bitCount_0f7a4 1 = .ok (.iload_n 0, 1) := by decide +kernel
theorem dJ6_bitCount_0f7a4_2 : decode cJ6_bitCount_0f7a4 2 = .ok (.iconst 1, 1) := by decide +kernel
theorem dJ6_bitCount_0f7a4_3 : decode cJ6_bitCount_0f7a4 3 = .ok (.iushr, 1) := by decide +kernel
theorem dJ6_bitCount_0f7a4_4 : decode cJ6_bitCount_0f7a4 4 = .ok (.ldc_w 265, 3) := by decide +kernel
theorem dJ6_bitCount_0f7a4_7 : decode cJ6_bitCount_0f7a4 7 = .ok (.iand, 1) := by decide +kernel
theorem dJ6_bitCount_0f7a4_8 : decode cJ6_bitCount_0f7a4 8 = .ok (.isub, 1) := by decide +kernel
theorem dJ6_bitCount_0f7a4_9 : decode cJ6_bitCount_0f7a4 9 = .ok (.istore_n 0, 1) := by decide +kernel
theorem dJ6_bitCount_0f7a4_10 : decode cJ6_bitCount_0f7a4 10 = .ok (.iload_n 0, 1) := by decide +kernel
theorem dJ6_bitCount_0f7a4_11 : decode cJ6_bitCount_0f7a4 11 = .ok (.ldc_w 266, 3) := by decide +kernel
theorem dJ6_bitCount_0f7a4_14 : decode cJ6_bitCount_0f7a4 14 = .ok (.iand, 1) := by decide +kernel
theorem dJ6_bitCount_0f7a4_15 : decode cJ6_bitCount_0f7a4 15 = .ok (.iload_n 0, 1) := by decide +kernel
theorem dJ6_bitCount_0f7a4_16 : decode cJ6_bitCount_0f7a4 16 = .ok (.iconst 2, 1) := by decide +kernel
theorem dJ6_bitCount_0f7a4_17 : decode cJ6_bitCount_0f7a4 17 = .ok (.iushr, 1) := by decide +kernel
theorem dJ6_bitCount_0f7a4_18 : decode cJ6_bitCount_0f7a4 18 = .ok (.ldc_w 266, 3) := by decide +kernel
theorem dJ6_bitCount_0f7a4_21 : decode cJ6_bitCount_0f7a4 21 = .ok (.iand, 1) := by decide +kernel
theorem dJ6_bitCount_0f7a4_22 : decode cJ6_bitCount_0f7a4 22 = .ok (.iadd, 1) := by decide +kernel
theorem dJ6_bitCount_0f7a4_23 : decode cJ6_bitCount_0f7a4 23 = .ok (.istore_n 0, 1) := by decide +kernel
theorem dJ6_bitCount_0f7a4_24 : decode cJ6_bitCount_0f7a4 24 = .ok (.iload_n 0, 1) := by decide +kernel
theorem dJ6_bitCount_0f7a4_25 : decode cJ6_bitCount_0f7a4 25 = .ok (.iload_n 0, 1) := by decide +kernel
theorem dJ6_bitCount_0f7a4_26 : decode cJ6_bitCount_0f7a4 26 = .ok (.iconst 4, 1) := by decide +kernel
theorem dJ6_bitCount_0f7a4_27 : decode cJ6_bitCount_0f7a4 27 = .ok (.iushr, 1) := by decide +kernel
theorem dJ6_bitCount_0f7a4_28 : decode cJ6_bitCount_0f7a4 28 = .ok (.iadd, 1) := by decide +kernel
theorem dJ6_bitCount_0f7a4_29 : decode cJ6_bitCount_0f7a4 29 = .ok (.ldc_w 267, 3) := by decide +kernel
theorem dJ6_bitCount_0f7a4_32 : decode cJ6_bitCount_0f7a4 32 = .ok (.iand, 1) := by decide +kernel
theorem dJ6_bitCount_0f7a4_33 : decode cJ6_bitCount_0f7a4 33 = .ok (.istore_n 0, 1) := by decide +kernel
theorem dJ6_bitCount_0f7a4_34 : decode cJ6_bitCount_0f7a4 34 = .ok (.iload_n 0, 1) := by decide +kernel
theorem dJ6_bitCount_0f7a4_35 : decode cJ6_bitCount_0f7a4 35 = .ok (.iload_n 0, 1) := by decide +kernel
theorem dJ6_bitCount_0f7a4_36 : decode cJ6_bitCount_0f7a4 36 = .ok (.bipush 8, 2) := by decide +kernel
theorem dJ6_bitCount_0f7a4_38 : decode cJ6_bitCount_0f7a4 38 = .ok (.iushr, 1) := by decide +kernel
theorem dJ6_bitCount_0f7a4_39 : decode cJ6_bitCount_0f7a4 39 = .ok (.iadd, 1) := by decide +kernel
theorem dJ6_bitCount_0f7a4_40 : decode cJ6_bitCount_0f7a4 40 = .ok (.istore_n 0, 1) := by decide +kernel
theorem dJ6_bitCount_0f7a4_41 : decode cJ6_bitCount_0f7a4 41 = .ok (.iload_n 0, 1) := by decide +kernel
theorem dJ6_bitCount_0f7a4_42 : decode cJ6_bitCount_0f7a4 42 = .ok (.iload_n 0, 1) := by decide +kernel
theorem dJ6_bitCount_0f7a4_43 : decode cJ6_bitCount_0f7a4 43 = .ok (.bipush 16, 2) := by decide +kernel
theorem dJ6_bitCount_0f7a4_45 : decode cJ6_bitCount_0f7a4 45 = .ok (.iushr, 1) := by decide +kernel
theorem dJ6_bitCount_0f7a4_46 : decode cJ6_bitCount_0f7a4 46 = .ok (.iadd, 1) := by decide +kernel
theorem dJ6_bitCount_0f7a4_47 : decode cJ6_bitCount_0f7a4 47 = .ok (.istore_n 0, 1) := by decide +kernel
theorem dJ6_bitCount_0f7a4_48 : decode cJ6_bitCount_0f7a4 48 = .ok (.iload_n 0, 1) := by decide +kernel
theorem dJ6_bitCount_0f7a4_49 : decode cJ6_bitCount_0f7a4 49 = .ok (.bipush 63, 2) := by decide +kernel
theorem dJ6_bitCount_0f7a4_51 : decode cJ6_bitCount_0f7a4 51 = .ok (.iand, 1) := by decide +kernel
theorem dJ6_bitCount_0f7a4_52 : decode cJ6_bitCount_0f7a4 52 = .ok (.ireturn, 1) := by decide +kernel
def fJ6_bitCount_0f7a4 (x0 : Int32) : Int32 := zlet (x0 - ((zushr x0 1) &&& 1431655765)) fun (x0_9 : Int32) =>
  zlet ((x0_9 &&& 858993459) + ((zushr x0_9 2) &&& 858993459)) fun (x0_23 : Int32) =>
  zlet ((x0_23 + (zushr x0_23 4)) &&& 252645135) fun (x0_33 : Int32) =>
  zlet (x0_33 + (zushr x0_33 8)) fun (x0_40 : Int32) =>
  zlet (x0_40 + (zushr x0_40 16)) fun (x0_47 : Int32) =>
  (x0_47 &&& 63)
set_option maxHeartbeats 4000000 in
theorem cJ6_bitCount_0f7a4_ok {E : zE} {d : Nat} (hd : 0 ≤ d) (x0 : Int32) (M : zM) {K : Int32 → Prop} (h : wpI (fJ6_bitCount_0f7a4 x0) K) : CMi E d yJ6_bitCount_0f7a4 cJ6_bitCount_0f7a4 1 (some .int) [.int x0] M (fun r N => M = N ∧ K r) := by
  refine CMi.of (by decide) (Nat.le_of_ble_eq_true rfl) (fun Γ hC hr => ?_)
  have hC : Cx E Γ RJ6 cJ6_bitCount_0f7a4 1 d := hC
  show G E Γ 1 0 [(0, .int x0)] [] M
  unfold fJ6_bitCount_0f7a4 at h
  refine g_iload_n (i := 0) (x := x0) hC (dJ6_bitCount_0f7a4_0) rfl rfl ?_
  refine g_iload_n (i := 0) (x := x0) hC (dJ6_bitCount_0f7a4_1) rfl rfl ?_
  refine g_iconst (v := 1) hC (dJ6_bitCount_0f7a4_2) kc_1 ?_
  refine g_iushr hC (dJ6_bitCount_0f7a4_3) ?_
  refine g_ldc_w (v := 1431655765) hC m_590 (dJ6_bitCount_0f7a4_4) ?_
  refine g_iand hC (dJ6_bitCount_0f7a4_7) ?_
  refine g_isub hC (dJ6_bitCount_0f7a4_8) ?_
  refine g_nmi (fun x0_9 e_x0_9 => ?_)
  have h := wpI_n e_x0_9 h
  refine g_istore_n (i := 0) (lv2 := [(0, .int x0_9)]) hC (dJ6_bitCount_0f7a4_9) rfl (by decide) rfl ?_
  refine g_iload_n (i := 0) (x := x0_9) hC (dJ6_bitCount_0f7a4_10) rfl rfl ?_
  refine g_ldc_w (v := 858993459) hC m_591 (dJ6_bitCount_0f7a4_11) ?_
  refine g_iand hC (dJ6_bitCount_0f7a4_14) ?_
  refine g_iload_n (i := 0) (x := x0_9) hC (dJ6_bitCount_0f7a4_15) rfl rfl ?_
  refine g_iconst (v := 2) hC (dJ6_bitCount_0f7a4_16) kc_2 ?_
  refine g_iushr hC (dJ6_bitCount_0f7a4_17) ?_
  refine g_ldc_w (v := 858993459) hC m_591 (dJ6_bitCount_0f7a4_18) ?_
  refine g_iand hC (dJ6_bitCount_0f7a4_21) ?_
  refine g_iadd hC (dJ6_bitCount_0f7a4_22) ?_
  refine g_nmi (fun x0_23 e_x0_23 => ?_)
  have h := wpI_n e_x0_23 h
  refine g_istore_n (i := 0) (lv2 := [(0, .int x0_23)]) hC (dJ6_bitCount_0f7a4_23) rfl (by decide) rfl ?_
  refine g_iload_n (i := 0) (x := x0_23) hC (dJ6_bitCount_0f7a4_24) rfl rfl ?_
  refine g_iload_n (i := 0) (x := x0_23) hC (dJ6_bitCount_0f7a4_25) rfl rfl ?_
  refine g_iconst (v := 4) hC (dJ6_bitCount_0f7a4_26) kc_4 ?_
  refine g_iushr hC (dJ6_bitCount_0f7a4_27) ?_
  refine g_iadd hC (dJ6_bitCount_0f7a4_28) ?_
  refine g_ldc_w (v := 252645135) hC m_592 (dJ6_bitCount_0f7a4_29) ?_
  refine g_iand hC (dJ6_bitCount_0f7a4_32) ?_
  refine g_nmi (fun x0_33 e_x0_33 => ?_)
  have h := wpI_n e_x0_33 h
  refine g_istore_n (i := 0) (lv2 := [(0, .int x0_33)]) hC (dJ6_bitCount_0f7a4_33) rfl (by decide) rfl ?_
  refine g_iload_n (i := 0) (x := x0_33) hC (dJ6_bitCount_0f7a4_34) rfl rfl ?_
  refine g_iload_n (i := 0) (x := x0_33) hC (dJ6_bitCount_0f7a4_35) rfl rfl ?_
  refine g_bipush (v := 8) hC (dJ6_bitCount_0f7a4_36) kb_8 ?_
  refine g_iushr hC (dJ6_bitCount_0f7a4_38) ?_
  refine g_iadd hC (dJ6_bitCount_0f7a4_39) ?_
  refine g_nmi (fun x0_40 e_x0_40 => ?_)
  have h := wpI_n e_x0_40 h
  refine g_istore_n (i := 0) (lv2 := [(0, .int x0_40)]) hC (dJ6_bitCount_0f7a4_40) rfl (by decide) rfl ?_
  refine g_iload_n (i := 0) (x := x0_40) hC (dJ6_bitCount_0f7a4_41) rfl rfl ?_
  refine g_iload_n (i := 0) (x := x0_40) hC (dJ6_bitCount_0f7a4_42) rfl rfl ?_
  refine g_bipush (v := 16) hC (dJ6_bitCount_0f7a4_43) kb_16 ?_
  refine g_iushr hC (dJ6_bitCount_0f7a4_45) ?_
  refine g_iadd hC (dJ6_bitCount_0f7a4_46) ?_
  refine g_nmi (fun x0_47 e_x0_47 => ?_)
  have h := wpI_n e_x0_47 h
  refine g_istore_n (i := 0) (lv2 := [(0, .int x0_47)]) hC (dJ6_bitCount_0f7a4_47) rfl (by decide) rfl ?_
  refine g_iload_n (i := 0) (x := x0_47) hC (dJ6_bitCount_0f7a4_48) rfl rfl ?_
  refine g_bipush (v := 63) hC (dJ6_bitCount_0f7a4_49) kb_63 ?_
  refine g_iand hC (dJ6_bitCount_0f7a4_51) ?_
  refine g_ireturn hC hr (dJ6_bitCount_0f7a4_52) ?_
  exact ⟨rfl, wpI_s h⟩
/-! LostByState$Acts.readFrom(LLostByState$Text;)I -/
theorem dX0_readFrom_0 : decode cX0_readFrom 0 = .ok (.aload_n 1, 1) := by decide +kernel
theorem dX0_readFrom_1 : decode cX0_readFrom 1 = .ok (.getfield 25, 3) := by decide +kernel
theorem dX0_readFrom_4 : decode cX0_readFrom 4 = .ok (.bipush 60, 2) := by decide +kernel
theorem dX0_readFrom_6 : decode cX0_readFrom 6 = .ok (.invokestatic 30, 3) := by decide +kernel
theorem dX0_readFrom_9 : decode cX0_readFrom 9 = .ok (.istore_n 2, 1) := by decide +kernel
theorem dX0_readFrom_10 : decode cX0_readFrom 10 = .ok (.aload_n 0, 1) := by decide +kernel
theorem dX0_readFrom_11 : decode cX0_readFrom 11 = .ok (.iconst 0, 1) := by decide +kernel
theorem dX0_readFrom_12 : decode cX0_readFrom 12 = .ok (.putfield 21, 3) := by decide +kernel
theorem dX0_readFrom_15 : decode cX0_readFrom 15 = .ok (.iconst 0, 1) := by decide +kernel
theorem dX0_readFrom_16 : decode cX0_readFrom 16 = .ok (.istore_n 3, 1) := by decide +kernel
theorem dX0_readFrom_17 : decode cX0_readFrom 17 = .ok (.iconst 0, 1) := by decide +kernel
theorem dX0_readFrom_18 : decode cX0_readFrom 18 = .ok (.istore 4, 2) := by decide +kernel
theorem dX0_readFrom_20 : decode cX0_readFrom 20 = .ok (.iload 4, 2) := by decide +kernel
theorem dX0_readFrom_22 : decode cX0_readFrom 22 = .ok (.bipush 30, 2) := by decide +kernel
theorem dX0_readFrom_24 : decode cX0_readFrom 24 = .ok (.if_icmp .ge 197, 3) := by decide +kernel
theorem dX0_readFrom_27 : decode cX0_readFrom 27 = .ok (.iload_n 3, 1) := by decide +kernel
theorem dX0_readFrom_28 : decode cX0_readFrom 28 = .ok (.iload_n 2, 1) := by decide +kernel
theorem dX0_readFrom_29 : decode cX0_readFrom 29 = .ok (.if_icmp .ge 192, 3) := by decide +kernel
theorem dX0_readFrom_32 : decode cX0_readFrom 32 = .ok (.aload_n 1, 1) := by decide +kernel
theorem dX0_readFrom_33 : decode cX0_readFrom 33 = .ok (.iload_n 3, 1) := by decide +kernel
theorem dX0_readFrom_34 : decode cX0_readFrom 34 = .ok (.invokevirtual 36, 3) := by decide +kernel
theorem dX0_readFrom_37 : decode cX0_readFrom 37 = .ok (.invokestatic 40, 3) := by decide +kernel
theorem dX0_readFrom_40 : decode cX0_readFrom 40 = .ok (.istore 5, 2) := by decide +kernel
theorem dX0_readFrom_42 : decode cX0_readFrom 42 = .ok (.iload 5, 2) := by decide +kernel
theorem dX0_readFrom_44 : decode cX0_readFrom 44 = .ok (.ifCond .ne 5, 3) := by decide +kernel
theorem dX0_readFrom_47 : decode cX0_readFrom 47 = .ok (.iload_n 3, 1) := by decide +kernel
theorem dX0_readFrom_48 : decode cX0_readFrom 48 = .ok (.ireturn, 1) := by decide +kernel
theorem dX0_readFrom_49 : decode cX0_readFrom 49 = .ok (.iconst 1, 1) := by decide +kernel
theorem dX0_readFrom_50 : decode cX0_readFrom 50 = .ok (.istore 6, 2) := by decide +kernel
theorem dX0_readFrom_52 : decode cX0_readFrom 52 = .ok (.iload 6, 2) := by decide +kernel
theorem dX0_readFrom_54 : decode cX0_readFrom 54 = .ok (.iload 5, 2) := by decide +kernel
theorem dX0_readFrom_56 : decode cX0_readFrom 56 = .ok (.if_icmp .gt 48, 3) := by decide +kernel
theorem dX0_readFrom_59 : decode cX0_readFrom 59 = .ok (.iload_n 3, 1) := by decide +kernel
theorem dX0_readFrom_60 : decode cX0_readFrom 60 = .ok (.iload 6, 2) := by decide +kernel
theorem dX0_readFrom_62 : decode cX0_readFrom 62 = .ok (.iadd, 1) := by decide +kernel
theorem dX0_readFrom_63 : decode cX0_readFrom 63 = .ok (.iload_n 2, 1) := by decide +kernel
theorem dX0_readFrom_64 : decode cX0_readFrom 64 = .ok (.if_icmp .ge 29, 3) := by decide +kernel
theorem dX0_readFrom_67 : decode cX0_readFrom 67 = .ok (.aload_n 1, 1) := by decide +kernel
theorem dX0_readFrom_68 : decode cX0_readFrom 68 = .ok (.iload_n 3, 1) := by decide +kernel
theorem dX0_readFrom_69 : decode cX0_readFrom 69 = .ok (.iload 6, 2) := by decide +kernel
theorem dX0_readFrom_71 : decode cX0_readFrom 71 = .ok (.iadd, 1) := by decide +kernel
theorem dX0_readFrom_72 : decode cX0_readFrom 72 = .ok (.invokevirtual 36, 3) := by decide +kernel
theorem dX0_readFrom_75 : decode cX0_readFrom 75 = .ok (.bipush 48, 2) := by decide +kernel
theorem dX0_readFrom_77 : decode cX0_readFrom 77 = .ok (.if_icmp .lt 16, 3) := by decide +kernel
theorem dX0_readFrom_80 : decode cX0_readFrom 80 = .ok (.aload_n 1, 1) := by decide +kernel
theorem dX0_readFrom_81 : decode cX0_readFrom 81 = .ok (.iload_n 3, 1) := by decide +kernel
theorem dX0_readFrom_82 : decode cX0_readFrom 82 = .ok (.iload 6, 2) := by decide +kernel
theorem dX0_readFrom_84 : decode cX0_readFrom 84 = .ok (.iadd, 1) := by decide +kernel
theorem dX0_readFrom_85 : decode cX0_readFrom 85 = .ok (.invokevirtual 36, 3) := by decide +kernel
theorem dX0_readFrom_88 : decode cX0_readFrom 88 = .ok (.bipush 57, 2) := by decide +kernel
theorem dX0_readFrom_90 : decode cX0_readFrom 90 = .ok (.if_icmp .le 8, 3) := by decide +kernel
theorem dX0_readFrom_93 : decode cX0_readFrom 93 = .ok (.iload_n 3, 1) := by decide +kernel
theorem dX0_readFrom_94 : decode cX0_readFrom 94 = .ok (.iload 6, 2) := by decide +kernel
theorem dX0_readFrom_96 : decode cX0_readFrom 96 = .ok (.iadd, 1) := by decide +kernel
theorem dX0_readFrom_97 : decode cX0_readFrom 97 = .ok (.ireturn, 1) := by decide +kernel
theorem dX0_readFrom_98 : decode cX0_readFrom 98 = .ok (.iinc 6 1, 3) := by decide +kernel
theorem dX0_readFrom_101 : decode cX0_readFrom 101 = .ok (.goto (-49), 3) := by decide +kernel
theorem dX0_readFrom_104 : decode cX0_readFrom 104 = .ok (.aload_n 0, 1) := by decide +kernel
theorem dX0_readFrom_105 : decode cX0_readFrom 105 = .ok (.getfield 11, 3) := by decide +kernel
theorem dX0_readFrom_108 : decode cX0_readFrom 108 = .ok (.iload 4, 2) := by decide +kernel
theorem dX0_readFrom_110 : decode cX0_readFrom 110 = .ok (.aload_n 1, 1) := by decide +kernel
theorem dX0_readFrom_111 : decode cX0_readFrom 111 = .ok (.iload_n 3, 1) := by decide +kernel
theorem dX0_readFrom_112 : decode cX0_readFrom 112 = .ok (.invokevirtual 36, 3) := by decide +kernel
theorem dX0_readFrom_115 : decode cX0_readFrom 115 = .ok (.iastore, 1) := by decide +kernel
theorem dX0_readFrom_116 : decode cX0_readFrom 116 = .ok (.aload_n 0, 1) := by decide +kernel
theorem dX0_readFrom_117 : decode cX0_readFrom 117 = .ok (.getfield 15, 3) := by decide +kernel
theorem dX0_readFrom_120 : decode cX0_readFrom 120 = .ok (.iload 4, 2) := by decide +kernel
theorem dX0_readFrom_122 : decode cX0_readFrom 122 = .ok (.aload_n 1, 1) := by decide +kernel
theorem dX0_readFrom_123 : decode cX0_readFrom 123 = .ok (.iload_n 3, 1) := by decide +kernel
theorem dX0_readFrom_124 : decode cX0_readFrom 124 = .ok (.iconst 1, 1) := by decide +kernel
theorem dX0_readFrom_125 : decode cX0_readFrom 125 = .ok (.iadd, 1) := by decide +kernel
theorem dX0_readFrom_126 : decode cX0_readFrom 126 = .ok (.invokevirtual 36, 3) := by decide +kernel
theorem dX0_readFrom_129 : decode cX0_readFrom 129 = .ok (.bipush 48, 2) := by decide +kernel
theorem dX0_readFrom_131 : decode cX0_readFrom 131 = .ok (.isub, 1) := by decide +kernel
theorem dX0_readFrom_132 : decode cX0_readFrom 132 = .ok (.iastore, 1) := by decide +kernel
theorem dX0_readFrom_133 : decode cX0_readFrom 133 = .ok (.aload_n 0, 1) := by decide +kernel
theorem dX0_readFrom_134 : decode cX0_readFrom 134 = .ok (.getfield 18, 3) := by decide +kernel
theorem dX0_readFrom_137 : decode cX0_readFrom 137 = .ok (.iload 4, 2) := by decide +kernel
theorem dX0_readFrom_139 : decode cX0_readFrom 139 = .ok (.iload 5, 2) := by decide +kernel
theorem dX0_readFrom_141 : decode cX0_readFrom 141 = .ok (.iconst 1, 1) := by decide +kernel
theorem dX0_readFrom_142 : decode cX0_readFrom 142 = .ok (.if_icmp .le 16, 3) := by decide +kernel
theorem dX0_readFrom_145 : decode cX0_readFrom 145 = .ok (.aload_n 1, 1) := by decide +kernel
theorem dX0_readFrom_146 : decode cX0_readFrom 146 = .ok (.iload_n 3, 1) := by decide +kernel
theorem dX0_readFrom_147 : decode cX0_readFrom 147 = .ok (.iconst 2, 1) := by decide +kernel
theorem dX0_readFrom_148 : decode cX0_readFrom 148 = .ok (.iadd, 1) := by decide +kernel
theorem dX0_readFrom_149 : decode cX0_readFrom 149 = .ok (.invokevirtual 36, 3) := by decide +kernel
theorem dX0_readFrom_152 : decode cX0_readFrom 152 = .ok (.bipush 48, 2) := by decide +kernel
theorem dX0_readFrom_154 : decode cX0_readFrom 154 = .ok (.isub, 1) := by decide +kernel
theorem dX0_readFrom_155 : decode cX0_readFrom 155 = .ok (.goto 4, 3) := by decide +kernel
theorem dX0_readFrom_158 : decode cX0_readFrom 158 = .ok (.iconst 0, 1) := by decide +kernel
theorem dX0_readFrom_159 : decode cX0_readFrom 159 = .ok (.iastore, 1) := by decide +kernel
theorem dX0_readFrom_160 : decode cX0_readFrom 160 = .ok (.iload_n 3, 1) := by decide +kernel
theorem dX0_readFrom_161 : decode cX0_readFrom 161 = .ok (.iconst 1, 1) := by decide +kernel
theorem dX0_readFrom_162 : decode cX0_readFrom 162 = .ok (.iload 5, 2) := by decide +kernel
theorem dX0_readFrom_164 : decode cX0_readFrom 164 = .ok (.iadd, 1) := by decide +kernel
theorem dX0_readFrom_165 : decode cX0_readFrom 165 = .ok (.iadd, 1) := by decide +kernel
theorem dX0_readFrom_166 : decode cX0_readFrom 166 = .ok (.istore_n 3, 1) := by decide +kernel
theorem dX0_readFrom_167 : decode cX0_readFrom 167 = .ok (.aload_n 0, 1) := by decide +kernel
theorem dX0_readFrom_168 : decode cX0_readFrom 168 = .ok (.getfield 11, 3) := by decide +kernel
theorem dX0_readFrom_171 : decode cX0_readFrom 171 = .ok (.iload 4, 2) := by decide +kernel
theorem dX0_readFrom_173 : decode cX0_readFrom 173 = .ok (.iaload, 1) := by decide +kernel
theorem dX0_readFrom_174 : decode cX0_readFrom 174 = .ok (.bipush 99, 2) := by decide +kernel
theorem dX0_readFrom_176 : decode cX0_readFrom 176 = .ok (.if_icmp .ne 29, 3) := by decide +kernel
theorem dX0_readFrom_179 : decode cX0_readFrom 179 = .ok (.aload_n 0, 1) := by decide +kernel
theorem dX0_readFrom_180 : decode cX0_readFrom 180 = .ok (.getfield 18, 3) := by decide +kernel
theorem dX0_readFrom_183 : decode cX0_readFrom 183 = .ok (.iload 4, 2) := by decide +kernel
theorem dX0_readFrom_185 : decode cX0_readFrom 185 = .ok (.aload_n 1, 1) := by decide +kernel
theorem dX0_readFrom_186 : decode cX0_readFrom 186 = .ok (.iload_n 3, 1) := by decide +kernel
theorem dX0_readFrom_187 : decode cX0_readFrom 187 = .ok (.iload_n 2, 1) := by decide +kernel
theorem dX0_readFrom_188 : decode cX0_readFrom 188 = .ok (.invokestatic 43, 3) := by decide +kernel
theorem dX0_readFrom_191 : decode cX0_readFrom 191 = .ok (.iastore, 1) := by decide +kernel
theorem dX0_readFrom_192 : decode cX0_readFrom 192 = .ok (.iload_n 3, 1) := by decide +kernel
theorem dX0_readFrom_193 : decode cX0_readFrom 193 = .ok (.aload_n 0, 1) := by decide +kernel
theorem dX0_readFrom_194 : decode cX0_readFrom 194 = .ok (.getfield 18, 3) := by decide +kernel
theorem dX0_readFrom_197 : decode cX0_readFrom 197 = .ok (.iload 4, 2) := by decide +kernel
theorem dX0_readFrom_199 : decode cX0_readFrom 199 = .ok (.iaload, 1) := by decide +kernel
theorem dX0_readFrom_200 : decode cX0_readFrom 200 = .ok (.invokestatic 47, 3) := by decide +kernel
theorem dX0_readFrom_203 : decode cX0_readFrom 203 = .ok (.iadd, 1) := by decide +kernel
theorem dX0_readFrom_204 : decode cX0_readFrom 204 = .ok (.istore_n 3, 1) := by decide +kernel
theorem dX0_readFrom_205 : decode cX0_readFrom 205 = .ok (.aload_n 0, 1) := by decide +kernel
theorem dX0_readFrom_206 : decode cX0_readFrom 206 = .ok (.dup, 1) := by decide +kernel
theorem dX0_readFrom_207 : decode cX0_readFrom 207 = .ok (.getfield 21, 3) := by decide +kernel
theorem dX0_readFrom_210 : decode cX0_readFrom 210 = .ok (.iconst 1, 1) := by decide +kernel
theorem dX0_readFrom_211 : decode cX0_readFrom 211 = .ok (.iadd, 1) := by decide +kernel
theorem dX0_readFrom_212 : decode cX0_readFrom 212 = .ok (.putfield 21, 3) := by decide +kernel
theorem dX0_readFrom_215 : decode cX0_readFrom 215 = .ok (.iinc 4 1, 3) := by decide +kernel
theorem dX0_readFrom_218 : decode cX0_readFrom 218 = .ok (.goto (-198), 3) := by decide +kernel
theorem dX0_readFrom_221 : decode cX0_readFrom 221 = .ok (.iload_n 3, 1) := by decide +kernel
theorem dX0_readFrom_222 : decode cX0_readFrom 222 = .ok (.aload_n 1, 1) := by decide +kernel
theorem dX0_readFrom_223 : decode cX0_readFrom 223 = .ok (.getfield 25, 3) := by decide +kernel
theorem dX0_readFrom_226 : decode cX0_readFrom 226 = .ok (.if_icmp .ge 7, 3) := by decide +kernel
theorem dX0_readFrom_229 : decode cX0_readFrom 229 = .ok (.iload_n 3, 1) := by decide +kernel
theorem dX0_readFrom_230 : decode cX0_readFrom 230 = .ok (.goto 4, 3) := by decide +kernel
theorem dX0_readFrom_233 : decode cX0_readFrom 233 = .ok (.iconst (-1), 1) := by decide +kernel
theorem dX0_readFrom_234 : decode cX0_readFrom 234 = .ok (.ireturn, 1) := by decide +kernel
def fX0_readFrom_L52 (x2 : Int32) (x3 : Int32) (x4 : Int32) (x5 : Int32) (M : zM) : Nat → Int32 → Option ((Int32 × zM) ⊕ Unit)
  | 0, _ => none
  | n + 1, x6 => if x5 < x6 then (
    some (.inr ()))
    else (
    if x2 ≤ (x3 + x6) then (
    some (.inl (x3 + x6, M)))
    else (
    (fX9_signAt (x3 + x6) M).bind fun (r3 : Int32) =>
    if r3 < 48 then (
    some (.inl (x3 + x6, M)))
    else (
    (fX9_signAt (x3 + x6) M).bind fun (r4 : Int32) =>
    if r4 ≤ 57 then (
    fX0_readFrom_L52 x2 x3 x4 x5 M n (x6 + 1))
    else (
    some (.inl (x3 + x6, M))))))
def fX0_readFrom_L20 (x2 : Int32) : Nat → Int32 → Int32 → zM → Option ((Int32 × zM) ⊕ (Int32 × zM))
  | 0, _, _, _ => none
  | n + 1, x3, x4, M => if 30 ≤ x4 then (
    some (.inr (x3, M)))
    else (
    if x2 ≤ x3 then (
    some (.inr (x3, M)))
    else (
    (fX9_signAt x3 M).bind fun (r1 : Int32) =>
    zlet (fX0_digitsOf r1) fun (x5_40 : Int32) =>
    if x5_40 = 0 then (
    some (.inl (x3, M)))
    else (
    (fX0_readFrom_L52 x2 x3 x4 x5_40 M 4000 1).bind fun q => zs q (fun r => some (.inl r))
    (fun (_ : Unit) =>
    (fX9_signAt x3 M).bind fun (r5 : Int32) =>
    if zin x4 30 then (
    zlet (zSI M 23 x4.toNatClampNeg r5) fun (M115 : zM) =>
    (fX9_signAt (x3 + 1) M115).bind fun (r7 : Int32) =>
    zlet (zSI M115 24 x4.toNatClampNeg (r7 - 48)) fun (M132 : zM) =>
    (if x5_40 ≤ 1 then (
    some 0)
    else (
    (fX9_signAt (x3 + 2) M132).bind fun (r9 : Int32) =>
    some (r9 - 48)) : Option Int32).bind fun (s0_159 : Int32) =>
    zlet (zSI M132 25 x4.toNatClampNeg s0_159) fun (M159 : zM) =>
    zlet (x3 + (1 + x5_40)) fun (x3_166 : Int32) =>
    (if (M159.1 23 x4.toNatClampNeg) = 99 then (
    (fX0_readMarks x3_166 x2 M159).bind fun (r11 : Int32) =>
    zlet (zSI M159 25 x4.toNatClampNeg r11) fun (M191 : zM) =>
    zlet (x3_166 + (fJ6_bitCount_0f7a4 (M191.1 25 x4.toNatClampNeg))) fun (x3_204 : Int32) =>
    some (x3_204, M191))
    else (
    some (x3_166, M159)) : Option (Int32 × zM)).bind fun (q : Int32 × zM) => zp q fun x3_205 M_205 =>
    zlet (zSI M_205 22 3 ((M_205.1 22 3) + 1)) fun (M212 : zM) =>
    fX0_readFrom_L20 x2 n x3_205 (x4 + 1) M212) else none))))
def fX0_readFrom  (M : zM) : Option (Int32 × zM) := zlet (zmin (M.1 1 1) 60) fun (x2_9 : Int32) =>
  zlet (zSI M 22 3 0) fun (M12 : zM) =>
  (fX0_readFrom_L20 x2_9 4000 0 0 M12).bind fun q => zs q (fun r => some r)
  (fun (q : Int32 × zM) => zp q fun x3_221 M_221 =>
  if (M_221.1 1 1) ≤ x3_221 then (
  some ((-1), M_221))
  else (
  some (x3_221, M_221)))
set_option maxHeartbeats 4000000 in
theorem lX0_readFrom_52 {E : zE} {Γ : zT} {d : Nat} {K1 : ((Int32 × zM) ⊕ Unit) → Prop} (hC : Cx E Γ RX0 cX0_readFrom 7 d) {post : Int32 → zM → Prop} (hr : zRi E Γ (some .int) post) (hd : 2 ≤ d) (x2 : Int32) (x3 : Int32) (x4 : Int32) (x5 : Int32) (M : zM) (hret : ∀ (r : Int32) (N : zM), K1 (.inl (r, N)) → post r N) (hx : ∀ (_ : Unit), K1 (.inr ()) → G E Γ 7 104 [(0, .ref 22), (1, .ref 1), (2, .int x2), (3, .int x3), (4, .int x4), (5, .int x5)] [] M) :
    ∀ (n : Nat) (x6 : Int32), wpO (fX0_readFrom_L52 x2 x3 x4 x5 M n x6) K1 → G E Γ 7 52 [(0, .ref 22), (1, .ref 1), (2, .int x2), (3, .int x3), (4, .int x4), (5, .int x5), (6, .int x6)] [] M := by
  intro n
  induction n with
  | zero =>
    intro x6 h
    exact (wpO_0 h).elim
  | succ n ih =>
    intro x6 h
    rw [fX0_readFrom_L52.eq_2] at h
    refine g_iload (i := 6) (x := x6) hC (dX0_readFrom_52) rfl ?_
    refine g_iload (i := 5) (x := x5) hC (dX0_readFrom_54) rfl ?_
    refine g_icmp_gt (tgt := 104) hC (dX0_readFrom_56) (by decide) (fun c56 => ?_) (fun c56 => ?_)
    · have h := wpO_t c56 h
      refine g_sub (lv' := [(0, .ref 22), (1, .ref 1), (2, .int x2), (3, .int x3), (4, .int x4), (5, .int x5)]) [0, 1, 2, 3, 4, 5] rfl ?_
      exact hx () (wpO_s h)
    · have h := wpO_f c56 h
      refine g_iload_n (i := 3) (x := x3) hC (dX0_readFrom_59) rfl rfl ?_
      refine g_iload (i := 6) (x := x6) hC (dX0_readFrom_60) rfl ?_
      refine g_iadd hC (dX0_readFrom_62) ?_
      refine g_iload_n (i := 2) (x := x2) hC (dX0_readFrom_63) rfl rfl ?_
      refine g_icmp_ge (tgt := 93) hC (dX0_readFrom_64) (by decide) (fun c64 => ?_) (fun c64 => ?_)
      · have h := wpO_t c64 h
        refine g_iload_n (i := 3) (x := x3) hC (dX0_readFrom_93) rfl rfl ?_
        refine g_iload (i := 6) (x := x6) hC (dX0_readFrom_94) rfl ?_
        refine g_iadd hC (dX0_readFrom_96) ?_
        refine g_ireturn hC hr (dX0_readFrom_97) ?_
        exact hret _ _ (wpO_s h)
      · have h := wpO_f c64 h
        refine g_aload_n (i := 1) (x := 1) hC (dX0_readFrom_67) rfl rfl ?_
        refine g_iload_n (i := 3) (x := x3) hC (dX0_readFrom_68) rfl rfl ?_
        refine g_iload (i := 6) (x := x6) hC (dX0_readFrom_69) rfl ?_
        refine g_iadd hC (dX0_readFrom_71) ?_
        have h := wpO_b h
        refine g_callVi ([.int (x3 + x6)]) hC wvX0_36 (dX0_readFrom_72) rfl rfl (by omega) (Nat.le_of_ble_eq_true rfl) (cX9_signAt_ok (by omega) (x3 + x6) M h) (fun r3 N q => ?_)
        obtain ⟨rfl, h⟩ := q
        refine g_bipush (v := 48) hC (dX0_readFrom_75) kb_48 ?_
        refine g_icmp_lt (tgt := 93) hC (dX0_readFrom_77) (by decide) (fun c77 => ?_) (fun c77 => ?_)
        · have h := wpO_t c77 h
          refine g_iload_n (i := 3) (x := x3) hC (dX0_readFrom_93) rfl rfl ?_
          refine g_iload (i := 6) (x := x6) hC (dX0_readFrom_94) rfl ?_
          refine g_iadd hC (dX0_readFrom_96) ?_
          refine g_ireturn hC hr (dX0_readFrom_97) ?_
          exact hret _ _ (wpO_s h)
        · have h := wpO_f c77 h
          refine g_aload_n (i := 1) (x := 1) hC (dX0_readFrom_80) rfl rfl ?_
          refine g_iload_n (i := 3) (x := x3) hC (dX0_readFrom_81) rfl rfl ?_
          refine g_iload (i := 6) (x := x6) hC (dX0_readFrom_82) rfl ?_
          refine g_iadd hC (dX0_readFrom_84) ?_
          have h := wpO_b h
          refine g_callVi ([.int (x3 + x6)]) hC wvX0_36 (dX0_readFrom_85) rfl rfl (by omega) (Nat.le_of_ble_eq_true rfl) (cX9_signAt_ok (by omega) (x3 + x6) M h) (fun r4 N q => ?_)
          obtain ⟨rfl, h⟩ := q
          refine g_bipush (v := 57) hC (dX0_readFrom_88) kb_57 ?_
          refine g_icmp_le (tgt := 98) hC (dX0_readFrom_90) (by decide) (fun c90 => ?_) (fun c90 => ?_)
          · have h := wpO_t c90 h
            refine g_iinc (x := x6) (v := (x6 + 1)) (lv2 := [(6, .int (x6 + 1)), (0, .ref 22), (1, .ref 1), (2, .int x2), (3, .int x3), (4, .int x4), (5, .int x5)]) hC (dX0_readFrom_98) rfl rfl (by decide) rfl ?_
            refine g_goto (tgt := 52) hC (dX0_readFrom_101) (by decide) ?_
            refine g_sub (lv' := [(0, .ref 22), (1, .ref 1), (2, .int x2), (3, .int x3), (4, .int x4), (5, .int x5), (6, .int (x6 + 1))]) [1, 2, 3, 4, 5, 6, 0] rfl ?_
            exact ih _ h
          · have h := wpO_f c90 h
            refine g_iload_n (i := 3) (x := x3) hC (dX0_readFrom_93) rfl rfl ?_
            refine g_iload (i := 6) (x := x6) hC (dX0_readFrom_94) rfl ?_
            refine g_iadd hC (dX0_readFrom_96) ?_
            refine g_ireturn hC hr (dX0_readFrom_97) ?_
            exact hret _ _ (wpO_s h)
set_option maxHeartbeats 4000000 in
theorem lX0_readFrom_20 {E : zE} {Γ : zT} {d : Nat} {K1 : ((Int32 × zM) ⊕ (Int32 × zM)) → Prop} (hC : Cx E Γ RX0 cX0_readFrom 7 d) {post : Int32 → zM → Prop} (hr : zRi E Γ (some .int) post) (hd : 2 ≤ d) (x2 : Int32) (hret : ∀ (r : Int32) (N : zM), K1 (.inl (r, N)) → post r N) (hx : ∀ (x3_221 : Int32) (M_221 : zM), K1 (.inr (x3_221, M_221)) → G E Γ 7 221 [(1, .ref 1), (3, .int x3_221)] [] M_221) :
    ∀ (n : Nat) (x3 : Int32) (x4 : Int32) (M : zM), wpO (fX0_readFrom_L20 x2 n x3 x4 M) K1 → G E Γ 7 20 [(0, .ref 22), (1, .ref 1), (2, .int x2), (3, .int x3), (4, .int x4)] [] M := by
  intro n
  induction n with
  | zero =>
    intro x3 x4 M h
    exact (wpO_0 h).elim
  | succ n ih =>
    intro x3 x4 M h
    rw [fX0_readFrom_L20.eq_2] at h
    refine g_iload (i := 4) (x := x4) hC (dX0_readFrom_20) rfl ?_
    refine g_bipush (v := 30) hC (dX0_readFrom_22) kb_30 ?_
    refine g_icmp_ge (tgt := 221) hC (dX0_readFrom_24) (by decide) (fun c24 => ?_) (fun c24 => ?_)
    · have h := wpO_t c24 h
      refine g_sub (lv' := [(1, .ref 1), (3, .int x3)]) [1, 3] rfl ?_
      exact hx _ _ (wpO_s h)
    · have h := wpO_f c24 h
      refine g_iload_n (i := 3) (x := x3) hC (dX0_readFrom_27) rfl rfl ?_
      refine g_iload_n (i := 2) (x := x2) hC (dX0_readFrom_28) rfl rfl ?_
      refine g_icmp_ge (tgt := 221) hC (dX0_readFrom_29) (by decide) (fun c29 => ?_) (fun c29 => ?_)
      · have h := wpO_t c29 h
        refine g_sub (lv' := [(1, .ref 1), (3, .int x3)]) [1, 3] rfl ?_
        exact hx _ _ (wpO_s h)
      · have h := wpO_f c29 h
        refine g_aload_n (i := 1) (x := 1) hC (dX0_readFrom_32) rfl rfl ?_
        refine g_iload_n (i := 3) (x := x3) hC (dX0_readFrom_33) rfl rfl ?_
        have h := wpO_b h
        refine g_callVi ([.int x3]) hC wvX0_36 (dX0_readFrom_34) rfl rfl (by omega) (Nat.le_of_ble_eq_true rfl) (cX9_signAt_ok (by omega) x3 M h) (fun r1 N q => ?_)
        obtain ⟨rfl, h⟩ := q
        refine g_callSi ([.int r1]) hC wsX0_40 (dX0_readFrom_37) rfl (by omega) (Nat.le_of_ble_eq_true rfl) (cX0_digitsOf_ok (by omega) r1 M (K := fun r => r = fX0_digitsOf r1) rfl) (fun r N q => ?_)
        obtain ⟨rfl, rfl⟩ := q
        refine g_nmi (fun x5_40 e_x5_40 => ?_)
        have h := wpO_n e_x5_40 h
        refine g_istore (i := 5) (lv2 := [(5, .int x5_40), (0, .ref 22), (1, .ref 1), (2, .int x2), (3, .int x3), (4, .int x4)]) hC (dX0_readFrom_40) (by decide) rfl ?_
        refine g_iload (i := 5) (x := x5_40) hC (dX0_readFrom_42) rfl ?_
        refine g_if_ne (tgt := 49) hC (dX0_readFrom_44) (by decide) (fun c44 => ?_) (fun c44 => ?_)
        · have h := wpO_f c44 h
          refine g_iconst (v := 1) hC (dX0_readFrom_49) kc_1 ?_
          refine g_istore (i := 6) (lv2 := [(6, .int 1), (5, .int x5_40), (0, .ref 22), (1, .ref 1), (2, .int x2), (3, .int x3), (4, .int x4)]) hC (dX0_readFrom_50) (by decide) rfl ?_
          refine g_sub (lv' := [(0, .ref 22), (1, .ref 1), (2, .int x2), (3, .int x3), (4, .int x4), (5, .int x5_40), (6, .int 1)]) [2, 3, 4, 5, 6, 1, 0] rfl ?_
          refine wpO_bJ h (fun KL52 hKL52 h => ?_)
          refine lX0_readFrom_52 (K1 := KL52) hC hr (by omega) x2 x3 x4 x5_40 M (fun r N h => ?_) (fun _ h => ?_) _ _ h
          · have h := wpO_i (hKL52 _ h)
            exact hret _ _ (wpO_s h)
          · have h := wpO_r (hKL52 _ h)
            refine g_aload_n (i := 0) (x := 22) hC (dX0_readFrom_104) rfl rfl ?_
            refine g_getR (r := 23) hC flX0_11 (dX0_readFrom_105) rfl rfl rfl ?_
            refine g_iload (i := 4) (x := x4) hC (dX0_readFrom_108) rfl ?_
            refine g_aload_n (i := 1) (x := 1) hC (dX0_readFrom_110) rfl rfl ?_
            refine g_iload_n (i := 3) (x := x3) hC (dX0_readFrom_111) rfl rfl ?_
            have h := wpO_b h
            refine g_callVi ([.int x3]) hC wvX0_36 (dX0_readFrom_112) rfl rfl (by omega) (Nat.le_of_ble_eq_true rfl) (cX9_signAt_ok (by omega) x3 M h) (fun r5 N q => ?_)
            obtain ⟨rfl, h⟩ := q
            obtain ⟨q6, h⟩ := wpO_g h
            refine g_iastore (n := 30) hC (dX0_readFrom_115) rfl q6 ?_
            refine g_nmM (fun M115 e_M115 => ?_)
            have h := wpO_n e_M115 h
            refine g_aload_n (i := 0) (x := 22) hC (dX0_readFrom_116) rfl rfl ?_
            refine g_getR (r := 24) hC flX0_15 (dX0_readFrom_117) rfl rfl rfl ?_
            refine g_iload (i := 4) (x := x4) hC (dX0_readFrom_120) rfl ?_
            refine g_aload_n (i := 1) (x := 1) hC (dX0_readFrom_122) rfl rfl ?_
            refine g_iload_n (i := 3) (x := x3) hC (dX0_readFrom_123) rfl rfl ?_
            refine g_iconst (v := 1) hC (dX0_readFrom_124) kc_1 ?_
            refine g_iadd hC (dX0_readFrom_125) ?_
            have h := wpO_b h
            refine g_callVi ([.int (x3 + 1)]) hC wvX0_36 (dX0_readFrom_126) rfl rfl (by omega) (Nat.le_of_ble_eq_true rfl) (cX9_signAt_ok (by omega) (x3 + 1) M115 h) (fun r7 N q => ?_)
            obtain ⟨rfl, h⟩ := q
            refine g_bipush (v := 48) hC (dX0_readFrom_129) kb_48 ?_
            refine g_isub hC (dX0_readFrom_131) ?_
            refine g_iastore (n := 30) hC (dX0_readFrom_132) rfl q6 ?_
            refine g_nmM (fun M132 e_M132 => ?_)
            have h := wpO_n e_M132 h
            refine g_aload_n (i := 0) (x := 22) hC (dX0_readFrom_133) rfl rfl ?_
            refine g_getR (r := 25) hC flX0_18 (dX0_readFrom_134) rfl rfl rfl ?_
            refine g_iload (i := 4) (x := x4) hC (dX0_readFrom_137) rfl ?_
            refine g_iload (i := 5) (x := x5_40) hC (dX0_readFrom_139) rfl ?_
            refine g_iconst (v := 1) hC (dX0_readFrom_141) kc_1 ?_
            refine wpO_bJ h (fun KJ8 hKJ8 h => ?_)
            have hJ8 : ∀ (s0_159 : Int32), KJ8 s0_159 → G E Γ 7 159 [(0, .ref 22), (1, .ref 1), (2, .int x2), (3, .int x3), (4, .int x4), (5, .int x5_40)] [.int s0_159, .int x4, .ref 25] M132 := by
              intro s0_159 h
              have h := hKJ8 _ h
              refine g_iastore (n := 30) hC (dX0_readFrom_159) rfl q6 ?_
              refine g_nmM (fun M159 e_M159 => ?_)
              have h := wpO_n e_M159 h
              refine g_iload_n (i := 3) (x := x3) hC (dX0_readFrom_160) rfl rfl ?_
              refine g_iconst (v := 1) hC (dX0_readFrom_161) kc_1 ?_
              refine g_iload (i := 5) (x := x5_40) hC (dX0_readFrom_162) rfl ?_
              refine g_iadd hC (dX0_readFrom_164) ?_
              refine g_iadd hC (dX0_readFrom_165) ?_
              refine g_nmi (fun x3_166 e_x3_166 => ?_)
              have h := wpO_n e_x3_166 h
              refine g_istore_n (i := 3) (lv2 := [(3, .int x3_166), (0, .ref 22), (1, .ref 1), (2, .int x2), (4, .int x4), (5, .int x5_40)]) hC (dX0_readFrom_166) rfl (by decide) rfl ?_
              refine g_aload_n (i := 0) (x := 22) hC (dX0_readFrom_167) rfl rfl ?_
              refine g_getR (r := 23) hC flX0_11 (dX0_readFrom_168) rfl rfl rfl ?_
              refine g_iload (i := 4) (x := x4) hC (dX0_readFrom_171) rfl ?_
              refine g_iaload (n := 30) hC (dX0_readFrom_173) rfl q6 ?_
              refine g_bipush (v := 99) hC (dX0_readFrom_174) kb_99 ?_
              refine wpO_bJ h (fun KJ10 hKJ10 h => ?_)
              have hJ10 : ∀ (x3_205 : Int32) (M_205 : zM), KJ10 (x3_205, M_205) → G E Γ 7 205 [(0, .ref 22), (1, .ref 1), (2, .int x2), (3, .int x3_205), (4, .int x4)] [] M_205 := by
                intro x3_205 M_205 h
                have h := hKJ10 _ h
                have h := wpO_p h
                refine g_aload_n (i := 0) (x := 22) hC (dX0_readFrom_205) rfl rfl ?_
                refine g_dup hC (dX0_readFrom_206) rfl ?_
                refine g_getI hC flX0_21 (dX0_readFrom_207) rfl rfl ?_
                refine g_iconst (v := 1) hC (dX0_readFrom_210) kc_1 ?_
                refine g_iadd hC (dX0_readFrom_211) ?_
                refine g_putI hC fpX0_21 (dX0_readFrom_212) rfl rfl rfl rfl ?_
                refine g_nmM (fun M212 e_M212 => ?_)
                have h := wpO_n e_M212 h
                refine g_iinc (x := x4) (v := (x4 + 1)) (lv2 := [(4, .int (x4 + 1)), (0, .ref 22), (1, .ref 1), (2, .int x2), (3, .int x3_205)]) hC (dX0_readFrom_215) rfl rfl (by decide) rfl ?_
                refine g_goto (tgt := 20) hC (dX0_readFrom_218) (by decide) ?_
                refine g_sub (lv' := [(0, .ref 22), (1, .ref 1), (2, .int x2), (3, .int x3_205), (4, .int (x4 + 1))]) [1, 2, 3, 4, 0] rfl ?_
                exact ih _ _ _ h
              refine g_icmp_ne (tgt := 205) hC (dX0_readFrom_176) (by decide) (fun c176 => ?_) (fun c176 => ?_)
              · have h := wpO_f c176 h
                refine g_sub (lv' := [(0, .ref 22), (1, .ref 1), (2, .int x2), (3, .int x3_166), (4, .int x4)]) [1, 2, 3, 0, 4] rfl ?_
                exact hJ10 _ _ (wpO_s h)
              · have h := wpO_t c176 h
                refine g_aload_n (i := 0) (x := 22) hC (dX0_readFrom_179) rfl rfl ?_
                refine g_getR (r := 25) hC flX0_18 (dX0_readFrom_180) rfl rfl rfl ?_
                refine g_iload (i := 4) (x := x4) hC (dX0_readFrom_183) rfl ?_
                refine g_aload_n (i := 1) (x := 1) hC (dX0_readFrom_185) rfl rfl ?_
                refine g_iload_n (i := 3) (x := x3_166) hC (dX0_readFrom_186) rfl rfl ?_
                refine g_iload_n (i := 2) (x := x2) hC (dX0_readFrom_187) rfl rfl ?_
                have h := wpO_b h
                refine g_callSi ([.ref 1, .int x3_166, .int x2]) hC wsX0_43 (dX0_readFrom_188) rfl (by omega) (Nat.le_of_ble_eq_true rfl) (cX0_readMarks_ok (by omega) x3_166 x2 M159 h) (fun r11 N q => ?_)
                obtain ⟨rfl, h⟩ := q
                refine g_iastore (n := 30) hC (dX0_readFrom_191) rfl q6 ?_
                refine g_nmM (fun M191 e_M191 => ?_)
                have h := wpO_n e_M191 h
                refine g_iload_n (i := 3) (x := x3_166) hC (dX0_readFrom_192) rfl rfl ?_
                refine g_aload_n (i := 0) (x := 22) hC (dX0_readFrom_193) rfl rfl ?_
                refine g_getR (r := 25) hC flX0_18 (dX0_readFrom_194) rfl rfl rfl ?_
                refine g_iload (i := 4) (x := x4) hC (dX0_readFrom_197) rfl ?_
                refine g_iaload (n := 30) hC (dX0_readFrom_199) rfl q6 ?_
                refine g_callSi ([.int (M191.1 25 x4.toNatClampNeg)]) hC wsX0_47 (dX0_readFrom_200) rfl (by omega) (Nat.le_of_ble_eq_true rfl) (cJ6_bitCount_0f7a4_ok (by omega) (M191.1 25 x4.toNatClampNeg) M191 (K := fun r => r = fJ6_bitCount_0f7a4 (M191.1 25 x4.toNatClampNeg)) rfl) (fun r N q => ?_)
                obtain ⟨rfl, rfl⟩ := q
                refine g_iadd hC (dX0_readFrom_203) ?_
                refine g_nmi (fun x3_204 e_x3_204 => ?_)
                have h := wpO_n e_x3_204 h
                refine g_istore_n (i := 3) (lv2 := [(3, .int x3_204), (0, .ref 22), (1, .ref 1), (2, .int x2), (4, .int x4), (5, .int x5_40)]) hC (dX0_readFrom_204) rfl (by decide) rfl ?_
                refine g_sub (lv' := [(0, .ref 22), (1, .ref 1), (2, .int x2), (3, .int x3_204), (4, .int x4)]) [1, 2, 3, 0, 4] rfl ?_
                exact hJ10 _ _ (wpO_s h)
            refine g_icmp_le (tgt := 158) hC (dX0_readFrom_142) (by decide) (fun c142 => ?_) (fun c142 => ?_)
            · have h := wpO_t c142 h
              refine g_iconst (v := 0) hC (dX0_readFrom_158) kc_0 ?_
              exact hJ8 _ (wpO_s h)
            · have h := wpO_f c142 h
              refine g_aload_n (i := 1) (x := 1) hC (dX0_readFrom_145) rfl rfl ?_
              refine g_iload_n (i := 3) (x := x3) hC (dX0_readFrom_146) rfl rfl ?_
              refine g_iconst (v := 2) hC (dX0_readFrom_147) kc_2 ?_
              refine g_iadd hC (dX0_readFrom_148) ?_
              have h := wpO_b h
              refine g_callVi ([.int (x3 + 2)]) hC wvX0_36 (dX0_readFrom_149) rfl rfl (by omega) (Nat.le_of_ble_eq_true rfl) (cX9_signAt_ok (by omega) (x3 + 2) M132 h) (fun r9 N q => ?_)
              obtain ⟨rfl, h⟩ := q
              refine g_bipush (v := 48) hC (dX0_readFrom_152) kb_48 ?_
              refine g_isub hC (dX0_readFrom_154) ?_
              refine g_goto (tgt := 159) hC (dX0_readFrom_155) (by decide) ?_
              exact hJ8 _ (wpO_s h)
        · have h := wpO_t c44 h
          refine g_iload_n (i := 3) (x := x3) hC (dX0_readFrom_47) rfl rfl ?_
          refine g_ireturn hC hr (dX0_readFrom_48) ?_
          exact hret _ _ (wpO_s h)
set_option maxHeartbeats 4000000 in
theorem cX0_readFrom_ok {E : zE} {d : Nat} (hd : 2 ≤ d)  (M : zM) {K : (Int32 × zM) → Prop} (h : wpO (fX0_readFrom  M) K) : CMi E d yX0_readFrom cX0_readFrom 7 (some .int) [.ref 22, .ref 1] M (fun r N => K (r, N)) := by
  refine CMi.of (by decide) (Nat.le_of_ble_eq_true rfl) (fun Γ hC hr => ?_)
  have hC : Cx E Γ RX0 cX0_readFrom 7 d := hC
  show G E Γ 7 0 [(0, .ref 22), (1, .ref 1)] [] M
  unfold fX0_readFrom at h
  refine g_aload_n (i := 1) (x := 1) hC (dX0_readFrom_0) rfl rfl ?_
  refine g_getI hC flX0_25 (dX0_readFrom_1) rfl rfl ?_
  refine g_bipush (v := 60) hC (dX0_readFrom_4) kb_60 ?_
  refine g_min hC wmX0_30 (dX0_readFrom_6) (by omega) (Nat.le_of_ble_eq_true rfl) ?_
  refine g_nmi (fun x2_9 e_x2_9 => ?_)
  have h := wpO_n e_x2_9 h
  refine g_istore_n (i := 2) (lv2 := [(2, .int x2_9), (0, .ref 22), (1, .ref 1)]) hC (dX0_readFrom_9) rfl (by decide) rfl ?_
  refine g_aload_n (i := 0) (x := 22) hC (dX0_readFrom_10) rfl rfl ?_
  refine g_iconst (v := 0) hC (dX0_readFrom_11) kc_0 ?_
  refine g_putI hC fpX0_21 (dX0_readFrom_12) rfl rfl rfl rfl ?_
  refine g_nmM (fun M12 e_M12 => ?_)
  have h := wpO_n e_M12 h
  refine g_iconst (v := 0) hC (dX0_readFrom_15) kc_0 ?_
  refine g_istore_n (i := 3) (lv2 := [(3, .int 0), (2, .int x2_9), (0, .ref 22), (1, .ref 1)]) hC (dX0_readFrom_16) rfl (by decide) rfl ?_
  refine g_iconst (v := 0) hC (dX0_readFrom_17) kc_0 ?_
  refine g_istore (i := 4) (lv2 := [(4, .int 0), (3, .int 0), (2, .int x2_9), (0, .ref 22), (1, .ref 1)]) hC (dX0_readFrom_18) (by decide) rfl ?_
  refine g_sub (lv' := [(0, .ref 22), (1, .ref 1), (2, .int x2_9), (3, .int 0), (4, .int 0)]) [3, 4, 2, 1, 0] rfl ?_
  refine wpO_bJ h (fun KL20 hKL20 h => ?_)
  refine lX0_readFrom_20 (K1 := KL20) hC hr (by omega) x2_9 (fun r N h => ?_) (fun x3_221 M_221 h => ?_) _ _ _ _ h
  · have h := wpO_i (hKL20 _ h)
    exact wpO_s h
  · have h := wpO_r (hKL20 _ h)
    have h := wpO_p h
    refine g_iload_n (i := 3) (x := x3_221) hC (dX0_readFrom_221) rfl rfl ?_
    refine g_aload_n (i := 1) (x := 1) hC (dX0_readFrom_222) rfl rfl ?_
    refine g_getI hC flX0_25 (dX0_readFrom_223) rfl rfl ?_
    refine g_icmp_ge (tgt := 233) hC (dX0_readFrom_226) (by decide) (fun c226 => ?_) (fun c226 => ?_)
    · have h := wpO_t c226 h
      refine g_iconst (v := (-1)) hC (dX0_readFrom_233) kc_m1 ?_
      refine g_ireturn hC hr (dX0_readFrom_234) ?_
      exact wpO_s h
    · have h := wpO_f c226 h
      refine g_iload_n (i := 3) (x := x3_221) hC (dX0_readFrom_229) rfl rfl ?_
      refine g_goto (tgt := 234) hC (dX0_readFrom_230) (by decide) ?_
      refine g_ireturn hC hr (dX0_readFrom_234) ?_
      exact wpO_s h
/-! LostByState$Hearsay.hear(IZ)V -/
theorem dX1_hear_0 : decode cX1_hear 0 = .ok (.iload_n 2, 1) := by decide +kernel
theorem dX1_hear_1 : decode cX1_hear 1 = .ok (.ifCond .eq 18, 3) := by decide +kernel
theorem dX1_hear_4 : decode cX1_hear 4 = .ok (.aload_n 0, 1) := by decide +kernel
theorem dX1_hear_5 : decode cX1_hear 5 = .ok (.dup, 1) := by decide +kernel
theorem dX1_hear_6 : decode cX1_hear 6 = .ok (.getfield 7, 3) := by decide +kernel
theorem dX1_hear_9 : decode cX1_hear 9 = .ok (.iconst 1, 1) := by decide +kernel
theorem dX1_hear_10 : decode cX1_hear 10 = .ok (.iload_n 1, 1) := by decide +kernel
theorem dX1_hear_11 : decode cX1_hear 11 = .ok (.ishl, 1) := by decide +kernel
theorem dX1_hear_12 : decode cX1_hear 12 = .ok (.ior, 1) := by decide +kernel
theorem dX1_hear_13 : decode cX1_hear 13 = .ok (.putfield 7, 3) := by decide +kernel
theorem dX1_hear_16 : decode cX1_hear 16 = .ok (.goto 15, 3) := by decide +kernel
theorem dX1_hear_19 : decode cX1_hear 19 = .ok (.aload_n 0, 1) := by decide +kernel
theorem dX1_hear_20 : decode cX1_hear 20 = .ok (.dup, 1) := by decide +kernel
theorem dX1_hear_21 : decode cX1_hear 21 = .ok (.getfield 13, 3) := by decide +kernel
theorem dX1_hear_24 : decode cX1_hear 24 = .ok (.iconst 1, 1) := by decide +kernel
theorem dX1_hear_25 : decode cX1_hear 25 = .ok (.iload_n 1, 1) := by decide +kernel
theorem dX1_hear_26 : decode cX1_hear 26 = .ok (.ishl, 1) := by decide +kernel
theorem dX1_hear_27 : decode cX1_hear 27 = .ok (.ior, 1) := by decide +kernel
theorem dX1_hear_28 : decode cX1_hear 28 = .ok (.putfield 13, 3) := by decide +kernel
theorem dX1_hear_31 : decode cX1_hear 31 = .ok (.aload_n 0, 1) := by decide +kernel
theorem dX1_hear_32 : decode cX1_hear 32 = .ok (.dup, 1) := by decide +kernel
theorem dX1_hear_33 : decode cX1_hear 33 = .ok (.getfield 16, 3) := by decide +kernel
theorem dX1_hear_36 : decode cX1_hear 36 = .ok (.iconst 1, 1) := by decide +kernel
theorem dX1_hear_37 : decode cX1_hear 37 = .ok (.iadd, 1) := by decide +kernel
theorem dX1_hear_38 : decode cX1_hear 38 = .ok (.putfield 16, 3) := by decide +kernel
theorem dX1_hear_41 : decode cX1_hear 41 = .ok (.return_, 1) := by decide +kernel
def fX1_hear (x1 : Int32) (x2 : Int32) (M : zM) : zM := zlet (if x2 = 0 then (
  zlet (zSI M 34 1 ((M.1 34 1) ||| (zshl 1 x1))) fun (M28 : zM) =>
  M28)
  else (
  zlet (zSI M 34 0 ((M.1 34 0) ||| (zshl 1 x1))) fun (M13 : zM) =>
  M13)) fun (M_31 : zM) =>
  zlet (zSI M_31 34 2 ((M_31.1 34 2) + 1)) fun (M38 : zM) =>
  M38
set_option maxHeartbeats 4000000 in
theorem cX1_hear_ok {E : zE} {d : Nat} (hd : 0 ≤ d) (x1 : Int32) (x2 : Int32) (M : zM) {K : zM → Prop} (h : wpI (fX1_hear x1 x2 M) K) : CMv E d yX1_hear cX1_hear 3 (none) [.ref 34, .int x1, .int x2] M K := by
  refine CMv.of (by decide) (Nat.le_of_ble_eq_true rfl) (fun Γ hC hr => ?_)
  have hC : Cx E Γ RX1 cX1_hear 3 d := hC
  show G E Γ 3 0 [(0, .ref 34), (1, .int x1), (2, .int x2)] [] M
  unfold fX1_hear at h
  refine g_iload_n (i := 2) (x := x2) hC (dX1_hear_0) rfl rfl ?_
  obtain ⟨M_31, e_M_31, h⟩ := wpI_l h
  have hJ1 : G E Γ 3 31 [(0, .ref 34)] [] M_31 := by
    refine g_aload_n (i := 0) (x := 34) hC (dX1_hear_31) rfl rfl ?_
    refine g_dup hC (dX1_hear_32) rfl ?_
    refine g_getI hC flX1_16 (dX1_hear_33) rfl rfl ?_
    refine g_iconst (v := 1) hC (dX1_hear_36) kc_1 ?_
    refine g_iadd hC (dX1_hear_37) ?_
    refine g_putI hC fpX1_16 (dX1_hear_38) rfl rfl rfl rfl ?_
    refine g_nmM (fun M38 e_M38 => ?_)
    have h := wpI_n e_M38 h
    refine g_vreturn hC hr (dX1_hear_41) ?_
    exact wpI_s h
  refine g_if_eq (tgt := 19) hC (dX1_hear_1) (by decide) (fun c1 => ?_) (fun c1 => ?_)
  · rw [if_pos c1] at e_M_31
    refine g_aload_n (i := 0) (x := 34) hC (dX1_hear_19) rfl rfl ?_
    refine g_dup hC (dX1_hear_20) rfl ?_
    refine g_getI hC flX1_13 (dX1_hear_21) rfl rfl ?_
    refine g_iconst (v := 1) hC (dX1_hear_24) kc_1 ?_
    refine g_iload_n (i := 1) (x := x1) hC (dX1_hear_25) rfl rfl ?_
    refine g_ishl hC (dX1_hear_26) ?_
    refine g_ior hC (dX1_hear_27) ?_
    refine g_putI hC fpX1_13 (dX1_hear_28) rfl rfl rfl rfl ?_
    refine g_nmM (fun M28 e_M28 => ?_)
    have e_M_31 := zle e_M28 e_M_31
    refine g_sub (lv' := [(0, .ref 34)]) [0] rfl ?_
    subst e_M_31
    exact hJ1
  · rw [if_neg c1] at e_M_31
    refine g_aload_n (i := 0) (x := 34) hC (dX1_hear_4) rfl rfl ?_
    refine g_dup hC (dX1_hear_5) rfl ?_
    refine g_getI hC flX1_7 (dX1_hear_6) rfl rfl ?_
    refine g_iconst (v := 1) hC (dX1_hear_9) kc_1 ?_
    refine g_iload_n (i := 1) (x := x1) hC (dX1_hear_10) rfl rfl ?_
    refine g_ishl hC (dX1_hear_11) ?_
    refine g_ior hC (dX1_hear_12) ?_
    refine g_putI hC fpX1_7 (dX1_hear_13) rfl rfl rfl rfl ?_
    refine g_nmM (fun M13 e_M13 => ?_)
    have e_M_31 := zle e_M13 e_M_31
    refine g_goto (tgt := 31) hC (dX1_hear_16) (by decide) ?_
    refine g_sub (lv' := [(0, .ref 34)]) [0] rfl ?_
    subst e_M_31
    exact hJ1
/-! LostByState$Hearsay.clear()V -/
theorem dX1_clear_0 : decode cX1_clear 0 = .ok (.aload_n 0, 1) := by decide +kernel
theorem dX1_clear_1 : decode cX1_clear 1 = .ok (.iconst 0, 1) := by decide +kernel
theorem dX1_clear_2 : decode cX1_clear 2 = .ok (.putfield 7, 3) := by decide +kernel
theorem dX1_clear_5 : decode cX1_clear 5 = .ok (.aload_n 0, 1) := by decide +kernel
theorem dX1_clear_6 : decode cX1_clear 6 = .ok (.iconst 0, 1) := by decide +kernel
theorem dX1_clear_7 : decode cX1_clear 7 = .ok (.putfield 13, 3) := by decide +kernel
theorem dX1_clear_10 : decode cX1_clear 10 = .ok (.aload_n 0, 1) := by decide +kernel
theorem dX1_clear_11 : decode cX1_clear 11 = .ok (.iconst 0, 1) := by decide +kernel
theorem dX1_clear_12 : decode cX1_clear 12 = .ok (.putfield 16, 3) := by decide +kernel
theorem dX1_clear_15 : decode cX1_clear 15 = .ok (.return_, 1) := by decide +kernel
def fX1_clear  (M : zM) : zM := zlet (zSI M 34 0 0) fun (M2 : zM) =>
  zlet (zSI M2 34 1 0) fun (M7 : zM) =>
  zlet (zSI M7 34 2 0) fun (M12 : zM) =>
  M12
set_option maxHeartbeats 4000000 in
theorem cX1_clear_ok {E : zE} {d : Nat} (hd : 0 ≤ d)  (M : zM) {K : zM → Prop} (h : wpI (fX1_clear  M) K) : CMv E d yX1_clear cX1_clear 1 (none) [.ref 34] M K := by
  refine CMv.of (by decide) (Nat.le_of_ble_eq_true rfl) (fun Γ hC hr => ?_)
  have hC : Cx E Γ RX1 cX1_clear 1 d := hC
  show G E Γ 1 0 [(0, .ref 34)] [] M
  unfold fX1_clear at h
  refine g_aload_n (i := 0) (x := 34) hC (dX1_clear_0) rfl rfl ?_
  refine g_iconst (v := 0) hC (dX1_clear_1) kc_0 ?_
  refine g_putI hC fpX1_7 (dX1_clear_2) rfl rfl rfl rfl ?_
  refine g_nmM (fun M2 e_M2 => ?_)
  have h := wpI_n e_M2 h
  refine g_aload_n (i := 0) (x := 34) hC (dX1_clear_5) rfl rfl ?_
  refine g_iconst (v := 0) hC (dX1_clear_6) kc_0 ?_
  refine g_putI hC fpX1_13 (dX1_clear_7) rfl rfl rfl rfl ?_
  refine g_nmM (fun M7 e_M7 => ?_)
  have h := wpI_n e_M7 h
  refine g_aload_n (i := 0) (x := 34) hC (dX1_clear_10) rfl rfl ?_
  refine g_iconst (v := 0) hC (dX1_clear_11) kc_0 ?_
  refine g_putI hC fpX1_16 (dX1_clear_12) rfl rfl rfl rfl ?_
  refine g_nmM (fun M12 e_M12 => ?_)
  have h := wpI_n e_M12 h
  refine g_vreturn hC hr (dX1_clear_15) ?_
  exact wpI_s h
/-! LostByState$Hearsay.isTrueOf(I)Z -/
theorem dX1_isTrueOf_0 : decode cX1_isTrueOf 0 = .ok (.aload_n 0, 1) := by decide +kernel
theorem dX1_isTrueOf_1 : decode cX1_isTrueOf 1 = .ok (.getfield 7, 3) := by decide +kernel
theorem dX1_isTrueOf_4 : decode cX1_isTrueOf 4 = .ok (.iload_n 1, 1) := by decide +kernel
theorem dX1_isTrueOf_5 : decode cX1_isTrueOf 5 = .ok (.iconst (-1), 1) := by decide +kernel
theorem dX1_isTrueOf_6 : decode cX1_isTrueOf 6 = .ok (.ixor, 1) := by decide +kernel
theorem dX1_isTrueOf_7 : decode cX1_isTrueOf 7 = .ok (.iand, 1) := by decide +kernel
theorem dX1_isTrueOf_8 : decode cX1_isTrueOf 8 = .ok (.ifCond .ne 16, 3) := by decide +kernel
theorem dX1_isTrueOf_11 : decode cX1_isTrueOf 11 = .ok (.aload_n 0, 1) := by decide +kernel
theorem dX1_isTrueOf_12 : decode cX1_isTrueOf 12 = .ok (.getfield 13, 3) := by decide +kernel
theorem dX1_isTrueOf_15 : decode cX1_isTrueOf 15 = .ok (.iload_n 1, 1) := by decide +kernel
theorem dX1_isTrueOf_16 : decode cX1_isTrueOf 16 = .ok (.iand, 1) := by decide +kernel
theorem dX1_isTrueOf_17 : decode cX1_isTrueOf 17 = .ok (.ifCond .ne 7, 3) := by decide +kernel
theorem dX1_isTrueOf_20 : decode cX1_isTrueOf 20 = .ok (.iconst 1, 1) := by decide +kernel
theorem dX1_isTrueOf_21 : decode cX1_isTrueOf 21 = .ok (.goto 4, 3) := by decide +kernel
theorem dX1_isTrueOf_24 : decode cX1_isTrueOf 24 = .ok (.iconst 0, 1) := by decide +kernel
theorem dX1_isTrueOf_25 : decode cX1_isTrueOf 25 = .ok (.ireturn, 1) := by decide +kernel
def fX1_isTrueOf (x1 : Int32) (M : zM) : Int32 := if ((M.1 34 0) &&& (x1 ^^^ (-1))) = 0 then (
  if ((M.1 34 1) &&& x1) = 0 then (
  1)
  else (
  0))
  else (
  0)
theorem bX1_isTrueOf (x1 : Int32) (M : zM) : fX1_isTrueOf x1 M = 0 ∨ fX1_isTrueOf x1 M = 1 := by
  unfold fX1_isTrueOf
  try simp only [zlet, zp, zj]
  repeat' split
  all_goals first | exact Or.inl rfl | exact Or.inr rfl | (simp; done)
set_option maxHeartbeats 4000000 in
theorem cX1_isTrueOf_ok {E : zE} {d : Nat} (hd : 0 ≤ d) (x1 : Int32) (M : zM) {K : Int32 → Prop} (h : wpI (fX1_isTrueOf x1 M) K) : CMi E d yX1_isTrueOf cX1_isTrueOf 2 (some .boolean) [.ref 34, .int x1] M (fun r N => M = N ∧ K r) := by
  refine CMi.of (by decide) (Nat.le_of_ble_eq_true rfl) (fun Γ hC hr => ?_)
  have hC : Cx E Γ RX1 cX1_isTrueOf 2 d := hC
  show G E Γ 2 0 [(0, .ref 34), (1, .int x1)] [] M
  unfold fX1_isTrueOf at h
  refine g_aload_n (i := 0) (x := 34) hC (dX1_isTrueOf_0) rfl rfl ?_
  refine g_getI hC flX1_7 (dX1_isTrueOf_1) rfl rfl ?_
  refine g_iload_n (i := 1) (x := x1) hC (dX1_isTrueOf_4) rfl rfl ?_
  refine g_iconst (v := (-1)) hC (dX1_isTrueOf_5) kc_m1 ?_
  refine g_ixor hC (dX1_isTrueOf_6) ?_
  refine g_iand hC (dX1_isTrueOf_7) ?_
  refine g_if_ne (tgt := 24) hC (dX1_isTrueOf_8) (by decide) (fun c8 => ?_) (fun c8 => ?_)
  · have h := wpI_f c8 h
    refine g_iconst (v := 0) hC (dX1_isTrueOf_24) kc_0 ?_
    refine g_zreturn hC hr (dX1_isTrueOf_25) (Or.inl rfl) ?_
    exact ⟨rfl, wpI_s h⟩
  · have h := wpI_t c8 h
    refine g_aload_n (i := 0) (x := 34) hC (dX1_isTrueOf_11) rfl rfl ?_
    refine g_getI hC flX1_13 (dX1_isTrueOf_12) rfl rfl ?_
    refine g_iload_n (i := 1) (x := x1) hC (dX1_isTrueOf_15) rfl rfl ?_
    refine g_iand hC (dX1_isTrueOf_16) ?_
    refine g_if_ne (tgt := 24) hC (dX1_isTrueOf_17) (by decide) (fun c17 => ?_) (fun c17 => ?_)
    · have h := wpI_f c17 h
      refine g_iconst (v := 0) hC (dX1_isTrueOf_24) kc_0 ?_
      refine g_zreturn hC hr (dX1_isTrueOf_25) (Or.inl rfl) ?_
      exact ⟨rfl, wpI_s h⟩
    · have h := wpI_t c17 h
      refine g_iconst (v := 1) hC (dX1_isTrueOf_20) kc_1 ?_
      refine g_goto (tgt := 25) hC (dX1_isTrueOf_21) (by decide) ?_
      refine g_zreturn hC hr (dX1_isTrueOf_25) (Or.inr rfl) ?_
      exact ⟨rfl, wpI_s h⟩
/-! LostByState$Whereabouts.become(LLostByState$Whereabouts;)V -/
theorem dX10_become_0 : decode cX10_become 0 = .ok (.aload_n 1, 1) := by decide +kernel
theorem dX10_become_1 : decode cX10_become 1 = .ok (.getfield 9, 3) := by decide +kernel
theorem dX10_become_4 : decode cX10_become 4 = .ok (.iconst 0, 1) := by decide +kernel
theorem dX10_become_5 : decode cX10_become 5 = .ok (.aload_n 0, 1) := by decide +kernel
theorem dX10_become_6 : decode cX10_become 6 = .ok (.getfield 9, 3) := by decide +kernel
theorem dX10_become_9 : decode cX10_become 9 = .ok (.iconst 0, 1) := by decide +kernel
theorem dX10_become_10 : decode cX10_become 10 = .ok (.bipush 8, 2) := by decide +kernel
theorem dX10_become_12 : decode cX10_become 12 = .ok (.invokestatic 31, 3) := by decide +kernel
theorem dX10_become_15 : decode cX10_become 15 = .ok (.aload_n 1, 1) := by decide +kernel
theorem dX10_become_16 : decode cX10_become 16 = .ok (.getfield 15, 3) := by decide +kernel
theorem dX10_become_19 : decode cX10_become 19 = .ok (.iconst 0, 1) := by decide +kernel
theorem dX10_become_20 : decode cX10_become 20 = .ok (.aload_n 0, 1) := by decide +kernel
theorem dX10_become_21 : decode cX10_become 21 = .ok (.getfield 15, 3) := by decide +kernel
theorem dX10_become_24 : decode cX10_become 24 = .ok (.iconst 0, 1) := by decide +kernel
theorem dX10_become_25 : decode cX10_become 25 = .ok (.bipush 8, 2) := by decide +kernel
theorem dX10_become_27 : decode cX10_become 27 = .ok (.invokestatic 31, 3) := by decide +kernel
theorem dX10_become_30 : decode cX10_become 30 = .ok (.aload_n 1, 1) := by decide +kernel
theorem dX10_become_31 : decode cX10_become 31 = .ok (.getfield 18, 3) := by decide +kernel
theorem dX10_become_34 : decode cX10_become 34 = .ok (.iconst 0, 1) := by decide +kernel
theorem dX10_become_35 : decode cX10_become 35 = .ok (.aload_n 0, 1) := by decide +kernel
theorem dX10_become_36 : decode cX10_become 36 = .ok (.getfield 18, 3) := by decide +kernel
theorem dX10_become_39 : decode cX10_become 39 = .ok (.iconst 0, 1) := by decide +kernel
theorem dX10_become_40 : decode cX10_become 40 = .ok (.bipush 8, 2) := by decide +kernel
theorem dX10_become_42 : decode cX10_become 42 = .ok (.invokestatic 31, 3) := by decide +kernel
theorem dX10_become_45 : decode cX10_become 45 = .ok (.aload_n 1, 1) := by decide +kernel
theorem dX10_become_46 : decode cX10_become 46 = .ok (.getfield 21, 3) := by decide +kernel
theorem dX10_become_49 : decode cX10_become 49 = .ok (.iconst 0, 1) := by decide +kernel
theorem dX10_become_50 : decode cX10_become 50 = .ok (.aload_n 0, 1) := by decide +kernel
theorem dX10_become_51 : decode cX10_become 51 = .ok (.getfield 21, 3) := by decide +kernel
theorem dX10_become_54 : decode cX10_become 54 = .ok (.iconst 0, 1) := by decide +kernel
theorem dX10_become_55 : decode cX10_become 55 = .ok (.bipush 8, 2) := by decide +kernel
theorem dX10_become_57 : decode cX10_become 57 = .ok (.invokestatic 31, 3) := by decide +kernel
theorem dX10_become_60 : decode cX10_become 60 = .ok (.aload_n 0, 1) := by decide +kernel
theorem dX10_become_61 : decode cX10_become 61 = .ok (.aload_n 1, 1) := by decide +kernel
theorem dX10_become_62 : decode cX10_become 62 = .ok (.getfield 24, 3) := by decide +kernel
theorem dX10_become_65 : decode cX10_become 65 = .ok (.putfield 24, 3) := by decide +kernel
theorem dX10_become_68 : decode cX10_become 68 = .ok (.aload_n 0, 1) := by decide +kernel
theorem dX10_become_69 : decode cX10_become 69 = .ok (.aload_n 1, 1) := by decide +kernel
theorem dX10_become_70 : decode cX10_become 70 = .ok (.getfield 28, 3) := by decide +kernel
theorem dX10_become_73 : decode cX10_become 73 = .ok (.putfield 28, 3) := by decide +kernel
theorem dX10_become_76 : decode cX10_become 76 = .ok (.return_, 1) := by decide +kernel
def fX10_become (x0 : Nat) (x1 : Nat) (M : zM) : Option zM := if zSH x1 = .inl 10 then (
  if zSH x0 = .inl 10 then (
  zlet (zSA M (x0 + 1) (va_cpy (M.1 (x1 + 1)) (M.1 (x0 + 1)) 0 0 8)) fun (M12 : zM) =>
  zlet (zSA M12 (x0 + 2) (va_cpy (M12.1 (x1 + 2)) (M12.1 (x0 + 2)) 0 0 8)) fun (M27 : zM) =>
  zlet (zSA M27 (x0 + 3) (va_cpy (M27.1 (x1 + 3)) (M27.1 (x0 + 3)) 0 0 8)) fun (M42 : zM) =>
  zlet (zSA M42 (x0 + 4) (va_cpy (M42.1 (x1 + 4)) (M42.1 (x0 + 4)) 0 0 8)) fun (M57 : zM) =>
  zlet (zSI M57 x0 4 (M57.1 x1 4)) fun (M65 : zM) =>
  zlet (zSI M65 x0 5 (M65.1 x1 5)) fun (M73 : zM) =>
  some M73) else none) else none
set_option maxHeartbeats 4000000 in
theorem cX10_become_ok {E : zE} {d : Nat} (hd : 1 ≤ d) (x0 : Nat) (x1 : Nat) (M : zM) {K : zM → Prop} (h : wpO (fX10_become x0 x1 M) K) : CMv E d yX10_become cX10_become 2 (none) [.ref x0, .ref x1] M K := by
  refine CMv.of (by decide) (Nat.le_of_ble_eq_true rfl) (fun Γ hC hr => ?_)
  have hC : Cx E Γ RX10 cX10_become 2 d := hC
  show G E Γ 2 0 [(0, .ref x0), (1, .ref x1)] [] M
  unfold fX10_become at h
  refine g_aload_n (i := 1) (x := x1) hC (dX10_become_0) rfl rfl ?_
  obtain ⟨q1, h⟩ := wpO_g h
  refine g_getR (r := x1 + 1) hC flX10_9 (dX10_become_1) q1 rfl (zRFw1 q1) ?_
  refine g_iconst (v := 0) hC (dX10_become_4) kc_0 ?_
  refine g_aload_n (i := 0) (x := x0) hC (dX10_become_5) rfl rfl ?_
  obtain ⟨q2, h⟩ := wpO_g h
  refine g_getR (r := x0 + 1) hC flX10_9 (dX10_become_6) q2 rfl (zRFw1 q2) ?_
  refine g_iconst (v := 0) hC (dX10_become_9) kc_0 ?_
  refine g_bipush (v := 8) hC (dX10_become_10) kb_8 ?_
  refine g_copy hC wcX10_31 (dX10_become_12) (zSHw1 q1) (zSHw1 q2) (by decide) (by decide) (by decide) (by decide) (by decide) (by omega) (Nat.le_of_ble_eq_true rfl) ?_
  refine g_nmM (fun M12 e_M12 => ?_)
  have h := wpO_n e_M12 h
  refine g_aload_n (i := 1) (x := x1) hC (dX10_become_15) rfl rfl ?_
  refine g_getR (r := x1 + 2) hC flX10_15 (dX10_become_16) q1 rfl (zRFw2 q1) ?_
  refine g_iconst (v := 0) hC (dX10_become_19) kc_0 ?_
  refine g_aload_n (i := 0) (x := x0) hC (dX10_become_20) rfl rfl ?_
  refine g_getR (r := x0 + 2) hC flX10_15 (dX10_become_21) q2 rfl (zRFw2 q2) ?_
  refine g_iconst (v := 0) hC (dX10_become_24) kc_0 ?_
  refine g_bipush (v := 8) hC (dX10_become_25) kb_8 ?_
  refine g_copy hC wcX10_31 (dX10_become_27) (zSHw2 q1) (zSHw2 q2) (by decide) (by decide) (by decide) (by decide) (by decide) (by omega) (Nat.le_of_ble_eq_true rfl) ?_
  refine g_nmM (fun M27 e_M27 => ?_)
  have h := wpO_n e_M27 h
  refine g_aload_n (i := 1) (x := x1) hC (dX10_become_30) rfl rfl ?_
  refine g_getR (r := x1 + 3) hC flX10_18 (dX10_become_31) q1 rfl (zRFw3 q1) ?_
  refine g_iconst (v := 0) hC (dX10_become_34) kc_0 ?_
  refine g_aload_n (i := 0) (x := x0) hC (dX10_become_35) rfl rfl ?_
  refine g_getR (r := x0 + 3) hC flX10_18 (dX10_become_36) q2 rfl (zRFw3 q2) ?_
  refine g_iconst (v := 0) hC (dX10_become_39) kc_0 ?_
  refine g_bipush (v := 8) hC (dX10_become_40) kb_8 ?_
  refine g_copy hC wcX10_31 (dX10_become_42) (zSHw3 q1) (zSHw3 q2) (by decide) (by decide) (by decide) (by decide) (by decide) (by omega) (Nat.le_of_ble_eq_true rfl) ?_
  refine g_nmM (fun M42 e_M42 => ?_)
  have h := wpO_n e_M42 h
  refine g_aload_n (i := 1) (x := x1) hC (dX10_become_45) rfl rfl ?_
  refine g_getR (r := x1 + 4) hC flX10_21 (dX10_become_46) q1 rfl (zRFw4 q1) ?_
  refine g_iconst (v := 0) hC (dX10_become_49) kc_0 ?_
  refine g_aload_n (i := 0) (x := x0) hC (dX10_become_50) rfl rfl ?_
  refine g_getR (r := x0 + 4) hC flX10_21 (dX10_become_51) q2 rfl (zRFw4 q2) ?_
  refine g_iconst (v := 0) hC (dX10_become_54) kc_0 ?_
  refine g_bipush (v := 8) hC (dX10_become_55) kb_8 ?_
  refine g_copy hC wcX10_31 (dX10_become_57) (zSHw4 q1) (zSHw4 q2) (by decide) (by decide) (by decide) (by decide) (by decide) (by omega) (Nat.le_of_ble_eq_true rfl) ?_
  refine g_nmM (fun M57 e_M57 => ?_)
  have h := wpO_n e_M57 h
  refine g_aload_n (i := 0) (x := x0) hC (dX10_become_60) rfl rfl ?_
  refine g_aload_n (i := 1) (x := x1) hC (dX10_become_61) rfl rfl ?_
  refine g_getI hC flX10_24 (dX10_become_62) q1 rfl ?_
  refine g_putI hC fpX10_24 (dX10_become_65) q2 rfl rfl rfl ?_
  refine g_nmM (fun M65 e_M65 => ?_)
  have h := wpO_n e_M65 h
  refine g_aload_n (i := 0) (x := x0) hC (dX10_become_68) rfl rfl ?_
  refine g_aload_n (i := 1) (x := x1) hC (dX10_become_69) rfl rfl ?_
  refine g_getI hC flX10_28 (dX10_become_70) q1 rfl ?_
  refine g_putI hC fpX10_28 (dX10_become_73) q2 rfl rfl rfl ?_
  refine g_nmM (fun M73 e_M73 => ?_)
  have h := wpO_n e_M73 h
  refine g_vreturn hC hr (dX10_become_76) ?_
  exact wpO_s h
/-! LostByState$Past.note(LLostByState$Whereabouts;)V -/
theorem dX2_note_0 : decode cX2_note 0 = .ok (.aload_n 0, 1) := by decide +kernel
theorem dX2_note_1 : decode cX2_note 1 = .ok (.getfield 11, 3) := by decide +kernel
theorem dX2_note_4 : decode cX2_note 4 = .ok (.aload_n 0, 1) := by decide +kernel
theorem dX2_note_5 : decode cX2_note 5 = .ok (.getfield 15, 3) := by decide +kernel
theorem dX2_note_8 : decode cX2_note 8 = .ok (.aaload, 1) := by decide +kernel
theorem dX2_note_9 : decode cX2_note 9 = .ok (.aload_n 1, 1) := by decide +kernel
theorem dX2_note_10 : decode cX2_note 10 = .ok (.invokevirtual 23, 3) := by decide +kernel
theorem dX2_note_13 : decode cX2_note 13 = .ok (.return_, 1) := by decide +kernel
def fX2_note (x1 : Nat) (M : zM) : Option zM := if zin (M.1 9 1) 13 then (
  (fX10_become (80 + 5 * (M.1 9 1).toNatClampNeg) x1 M).bind fun (M10 : zM) =>
  some M10) else none
set_option maxHeartbeats 4000000 in
theorem cX2_note_ok {E : zE} {d : Nat} (hd : 2 ≤ d) (x1 : Nat) (M : zM) {K : zM → Prop} (h : wpO (fX2_note x1 M) K) : CMv E d yX2_note cX2_note 2 (none) [.ref 9, .ref x1] M K := by
  refine CMv.of (by decide) (Nat.le_of_ble_eq_true rfl) (fun Γ hC hr => ?_)
  have hC : Cx E Γ RX2 cX2_note 2 d := hC
  show G E Γ 2 0 [(0, .ref 9), (1, .ref x1)] [] M
  unfold fX2_note at h
  refine g_aload_n (i := 0) (x := 9) hC (dX2_note_0) rfl rfl ?_
  refine g_getR (r := 10) hC flX2_11 (dX2_note_1) rfl rfl rfl ?_
  refine g_aload_n (i := 0) (x := 9) hC (dX2_note_4) rfl rfl ?_
  refine g_getI hC flX2_15 (dX2_note_5) rfl rfl ?_
  obtain ⟨q1, h⟩ := wpO_g h
  refine g_aaload (n := 13) (r := 80 + 5 * (M.1 9 1).toNatClampNeg) hC (dX2_note_8) rfl q1 rfl ?_
  refine g_aload_n (i := 1) (x := x1) hC (dX2_note_9) rfl rfl ?_
  have h := wpO_b h
  refine g_callVv ([.ref x1]) hC wvX2_23 (dX2_note_10) (zSH_w80 q1) rfl (by omega) (Nat.le_of_ble_eq_true rfl) (cX10_become_ok (by omega) (80 + 5 * (M.1 9 1).toNatClampNeg) x1 M h) (fun M10 h => ?_)
  refine g_vreturn hC hr (dX2_note_13) ?_
  exact wpO_s h
/-! LostByState$Past.keepNoted()V -/
theorem dX2_keepNoted_0 : decode cX2_keepNoted 0 = .ok (.aload_n 0, 1) := by decide +kernel
theorem dX2_keepNoted_1 : decode cX2_keepNoted 1 = .ok (.aload_n 0, 1) := by decide +kernel
theorem dX2_keepNoted_2 : decode cX2_keepNoted 2 = .ok (.getfield 15, 3) := by decide +kernel
theorem dX2_keepNoted_5 : decode cX2_keepNoted 5 = .ok (.iconst 1, 1) := by decide +kernel
theorem dX2_keepNoted_6 : decode cX2_keepNoted 6 = .ok (.iadd, 1) := by decide +kernel
theorem dX2_keepNoted_7 : decode cX2_keepNoted 7 = .ok (.bipush 13, 2) := by decide +kernel
theorem dX2_keepNoted_9 : decode cX2_keepNoted 9 = .ok (.irem, 1) := by decide +kernel
theorem dX2_keepNoted_10 : decode cX2_keepNoted 10 = .ok (.putfield 15, 3) := by decide +kernel
theorem dX2_keepNoted_13 : decode cX2_keepNoted 13 = .ok (.aload_n 0, 1) := by decide +kernel
theorem dX2_keepNoted_14 : decode cX2_keepNoted 14 = .ok (.bipush 12, 2) := by decide +kernel
theorem dX2_keepNoted_16 : decode cX2_keepNoted 16 = .ok (.aload_n 0, 1) := by decide +kernel
theorem dX2_keepNoted_17 : decode cX2_keepNoted 17 = .ok (.getfield 19, 3) := by decide +kernel
theorem dX2_keepNoted_20 : decode cX2_keepNoted 20 = .ok (.iconst 1, 1) := by decide +kernel
theorem dX2_keepNoted_21 : decode cX2_keepNoted 21 = .ok (.iadd, 1) := by decide +kernel
theorem dX2_keepNoted_22 : decode cX2_keepNoted 22 = .ok (.invokestatic 27, 3) := by decide +kernel
theorem dX2_keepNoted_25 : decode cX2_keepNoted 25 = .ok (.putfield 19, 3) := by decide +kernel
theorem dX2_keepNoted_28 : decode cX2_keepNoted 28 = .ok (.return_, 1) := by decide +kernel
def fX2_keepNoted  (M : zM) : zM := zlet (zSI M 9 1 (zrem ((M.1 9 1) + 1) 13)) fun (M10 : zM) =>
  zlet (zSI M10 9 2 (zmin 12 ((M10.1 9 2) + 1))) fun (M25 : zM) =>
  M25
set_option maxHeartbeats 4000000 in
theorem cX2_keepNoted_ok {E : zE} {d : Nat} (hd : 1 ≤ d)  (M : zM) {K : zM → Prop} (h : wpI (fX2_keepNoted  M) K) : CMv E d yX2_keepNoted cX2_keepNoted 1 (none) [.ref 9] M K := by
  refine CMv.of (by decide) (Nat.le_of_ble_eq_true rfl) (fun Γ hC hr => ?_)
  have hC : Cx E Γ RX2 cX2_keepNoted 1 d := hC
  show G E Γ 1 0 [(0, .ref 9)] [] M
  unfold fX2_keepNoted at h
  refine g_aload_n (i := 0) (x := 9) hC (dX2_keepNoted_0) rfl rfl ?_
  refine g_aload_n (i := 0) (x := 9) hC (dX2_keepNoted_1) rfl rfl ?_
  refine g_getI hC flX2_15 (dX2_keepNoted_2) rfl rfl ?_
  refine g_iconst (v := 1) hC (dX2_keepNoted_5) kc_1 ?_
  refine g_iadd hC (dX2_keepNoted_6) ?_
  refine g_bipush (v := 13) hC (dX2_keepNoted_7) kb_13 ?_
  refine g_irem hC (dX2_keepNoted_9) (by decide) ?_
  refine g_putI hC fpX2_15 (dX2_keepNoted_10) rfl rfl rfl rfl ?_
  refine g_nmM (fun M10 e_M10 => ?_)
  have h := wpI_n e_M10 h
  refine g_aload_n (i := 0) (x := 9) hC (dX2_keepNoted_13) rfl rfl ?_
  refine g_bipush (v := 12) hC (dX2_keepNoted_14) kb_12 ?_
  refine g_aload_n (i := 0) (x := 9) hC (dX2_keepNoted_16) rfl rfl ?_
  refine g_getI hC flX2_19 (dX2_keepNoted_17) rfl rfl ?_
  refine g_iconst (v := 1) hC (dX2_keepNoted_20) kc_1 ?_
  refine g_iadd hC (dX2_keepNoted_21) ?_
  refine g_min hC wmX2_27 (dX2_keepNoted_22) (by omega) (Nat.le_of_ble_eq_true rfl) ?_
  refine g_putI hC fpX2_19 (dX2_keepNoted_25) rfl rfl rfl rfl ?_
  refine g_nmM (fun M25 e_M25 => ?_)
  have h := wpI_n e_M25 h
  refine g_vreturn hC hr (dX2_keepNoted_28) ?_
  exact wpI_s h
/-! LostByState$Past.bringBack(LLostByState$Whereabouts;)Z -/
theorem dX2_bringBack_0 : decode cX2_bringBack 0 = .ok (.aload_n 0, 1) := by decide +kernel
theorem dX2_bringBack_1 : decode cX2_bringBack 1 = .ok (.getfield 19, 3) := by decide +kernel
theorem dX2_bringBack_4 : decode cX2_bringBack 4 = .ok (.ifCond .ne 5, 3) := by decide +kernel
theorem dX2_bringBack_7 : decode cX2_bringBack 7 = .ok (.iconst 0, 1) := by decide +kernel
theorem dX2_bringBack_8 : decode cX2_bringBack 8 = .ok (.ireturn, 1) := by decide +kernel
theorem dX2_bringBack_9 : decode cX2_bringBack 9 = .ok (.aload_n 0, 1) := by decide +kernel
theorem dX2_bringBack_10 : decode cX2_bringBack 10 = .ok (.dup, 1) := by decide +kernel
theorem dX2_bringBack_11 : decode cX2_bringBack 11 = .ok (.getfield 19, 3) := by decide +kernel
theorem dX2_bringBack_14 : decode cX2_bringBack 14 = .ok (.iconst 1, 1) := by decide +kernel
theorem dX2_bringBack_15 : decode cX2_bringBack 15 = .ok (.isub, 1) := by decide +kernel
theorem dX2_bringBack_16 : decode cX2_bringBack 16 = .ok (.putfield 19, 3) := by decide +kernel
theorem dX2_bringBack_19 : decode cX2_bringBack 19 = .ok (.aload_n 0, 1) := by decide +kernel
theorem dX2_bringBack_20 : decode cX2_bringBack 20 = .ok (.aload_n 0, 1) := by decide +kernel
theorem dX2_bringBack_21 : decode cX2_bringBack 21 = .ok (.getfield 15, 3) := by decide +kernel
theorem dX2_bringBack_24 : decode cX2_bringBack 24 = .ok (.bipush 13, 2) := by decide +kernel
theorem dX2_bringBack_26 : decode cX2_bringBack 26 = .ok (.iadd, 1) := by decide +kernel
theorem dX2_bringBack_27 : decode cX2_bringBack 27 = .ok (.iconst 1, 1) := by decide +kernel
theorem dX2_bringBack_28 : decode cX2_bringBack 28 = .ok (.isub, 1) := by decide +kernel
theorem dX2_bringBack_29 : decode cX2_bringBack 29 = .ok (.bipush 13, 2) := by decide +kernel
theorem dX2_bringBack_31 : decode cX2_bringBack 31 = .ok (.irem, 1) := by decide +kernel
theorem dX2_bringBack_32 : decode cX2_bringBack 32 = .ok (.putfield 15, 3) := by decide +kernel
theorem dX2_bringBack_35 : decode cX2_bringBack 35 = .ok (.aload_n 1, 1) := by decide +kernel
theorem dX2_bringBack_36 : decode cX2_bringBack 36 = .ok (.aload_n 0, 1) := by decide +kernel
theorem dX2_bringBack_37 : decode cX2_bringBack 37 = .ok (.getfield 11, 3) := by decide +kernel
theorem dX2_bringBack_40 : decode cX2_bringBack 40 = .ok (.aload_n 0, 1) := by decide +kernel
theorem dX2_bringBack_41 : decode cX2_bringBack 41 = .ok (.getfield 15, 3) := by decide +kernel
theorem dX2_bringBack_44 : decode cX2_bringBack 44 = .ok (.aaload, 1) := by decide +kernel
theorem dX2_bringBack_45 : decode cX2_bringBack 45 = .ok (.invokevirtual 23, 3) := by decide +kernel
theorem dX2_bringBack_48 : decode cX2_bringBack 48 = .ok (.iconst 1, 1) := by decide +kernel
theorem dX2_bringBack_49 : decode cX2_bringBack 49 = .ok (.ireturn, 1) := by decide +kernel
def fX2_bringBack (x1 : Nat) (M : zM) : Option (Int32 × zM) := if (M.1 9 2) = 0 then (
  some (0, M))
  else (
  zlet (zSI M 9 2 ((M.1 9 2) - 1)) fun (M16 : zM) =>
  zlet (zSI M16 9 1 (zrem (((M16.1 9 1) + 13) - 1) 13)) fun (M32 : zM) =>
  if zin (M32.1 9 1) 13 then (
  if zSH x1 = .inl 10 then (
  (fX10_become x1 (80 + 5 * (M32.1 9 1).toNatClampNeg) M32).bind fun (M45 : zM) =>
  some (1, M45)) else none) else none)
set_option maxHeartbeats 4000000 in
theorem cX2_bringBack_ok {E : zE} {d : Nat} (hd : 2 ≤ d) (x1 : Nat) (M : zM) {K : (Int32 × zM) → Prop} (h : wpO (fX2_bringBack x1 M) K) : CMi E d yX2_bringBack cX2_bringBack 2 (some .boolean) [.ref 9, .ref x1] M (fun r N => K (r, N)) := by
  refine CMi.of (by decide) (Nat.le_of_ble_eq_true rfl) (fun Γ hC hr => ?_)
  have hC : Cx E Γ RX2 cX2_bringBack 2 d := hC
  show G E Γ 2 0 [(0, .ref 9), (1, .ref x1)] [] M
  unfold fX2_bringBack at h
  refine g_aload_n (i := 0) (x := 9) hC (dX2_bringBack_0) rfl rfl ?_
  refine g_getI hC flX2_19 (dX2_bringBack_1) rfl rfl ?_
  refine g_if_ne (tgt := 9) hC (dX2_bringBack_4) (by decide) (fun c4 => ?_) (fun c4 => ?_)
  · have h := wpO_f c4 h
    refine g_aload_n (i := 0) (x := 9) hC (dX2_bringBack_9) rfl rfl ?_
    refine g_dup hC (dX2_bringBack_10) rfl ?_
    refine g_getI hC flX2_19 (dX2_bringBack_11) rfl rfl ?_
    refine g_iconst (v := 1) hC (dX2_bringBack_14) kc_1 ?_
    refine g_isub hC (dX2_bringBack_15) ?_
    refine g_putI hC fpX2_19 (dX2_bringBack_16) rfl rfl rfl rfl ?_
    refine g_nmM (fun M16 e_M16 => ?_)
    have h := wpO_n e_M16 h
    refine g_aload_n (i := 0) (x := 9) hC (dX2_bringBack_19) rfl rfl ?_
    refine g_aload_n (i := 0) (x := 9) hC (dX2_bringBack_20) rfl rfl ?_
    refine g_getI hC flX2_15 (dX2_bringBack_21) rfl rfl ?_
    refine g_bipush (v := 13) hC (dX2_bringBack_24) kb_13 ?_
    refine g_iadd hC (dX2_bringBack_26) ?_
    refine g_iconst (v := 1) hC (dX2_bringBack_27) kc_1 ?_
    refine g_isub hC (dX2_bringBack_28) ?_
    refine g_bipush (v := 13) hC (dX2_bringBack_29) kb_13 ?_
    refine g_irem hC (dX2_bringBack_31) (by decide) ?_
    refine g_putI hC fpX2_15 (dX2_bringBack_32) rfl rfl rfl rfl ?_
    refine g_nmM (fun M32 e_M32 => ?_)
    have h := wpO_n e_M32 h
    refine g_aload_n (i := 1) (x := x1) hC (dX2_bringBack_35) rfl rfl ?_
    refine g_aload_n (i := 0) (x := 9) hC (dX2_bringBack_36) rfl rfl ?_
    refine g_getR (r := 10) hC flX2_11 (dX2_bringBack_37) rfl rfl rfl ?_
    refine g_aload_n (i := 0) (x := 9) hC (dX2_bringBack_40) rfl rfl ?_
    refine g_getI hC flX2_15 (dX2_bringBack_41) rfl rfl ?_
    obtain ⟨q1, h⟩ := wpO_g h
    refine g_aaload (n := 13) (r := 80 + 5 * (M32.1 9 1).toNatClampNeg) hC (dX2_bringBack_44) rfl q1 rfl ?_
    obtain ⟨q2, h⟩ := wpO_g h
    have h := wpO_b h
    refine g_callVv ([.ref (80 + 5 * (M32.1 9 1).toNatClampNeg)]) hC wvX2_23 (dX2_bringBack_45) q2 rfl (by omega) (Nat.le_of_ble_eq_true rfl) (cX10_become_ok (by omega) x1 (80 + 5 * (M32.1 9 1).toNatClampNeg) M32 h) (fun M45 h => ?_)
    refine g_iconst (v := 1) hC (dX2_bringBack_48) kc_1 ?_
    refine g_zreturn hC hr (dX2_bringBack_49) (Or.inr rfl) ?_
    exact wpO_s h
  · have h := wpO_t c4 h
    refine g_iconst (v := 0) hC (dX2_bringBack_7) kc_0 ?_
    refine g_zreturn hC hr (dX2_bringBack_8) (Or.inl rfl) ?_
    exact wpO_s h
/-! LostByState$Row.begin()V -/
theorem dX3_begin_0 : decode cX3_begin 0 = .ok (.aload_n 0, 1) := by decide +kernel
theorem dX3_begin_1 : decode cX3_begin 1 = .ok (.iconst 0, 1) := by decide +kernel
theorem dX3_begin_2 : decode cX3_begin 2 = .ok (.putfield 13, 3) := by decide +kernel
theorem dX3_begin_5 : decode cX3_begin 5 = .ok (.return_, 1) := by decide +kernel
def fX3_begin  (M : zM) : zM := zlet (zSI M 3 1 0) fun (M2 : zM) =>
  M2
set_option maxHeartbeats 4000000 in
theorem cX3_begin_ok {E : zE} {d : Nat} (hd : 0 ≤ d)  (M : zM) {K : zM → Prop} (h : wpI (fX3_begin  M) K) : CMv E d yX3_begin cX3_begin 1 (none) [.ref 3] M K := by
  refine CMv.of (by decide) (Nat.le_of_ble_eq_true rfl) (fun Γ hC hr => ?_)
  have hC : Cx E Γ RX3 cX3_begin 1 d := hC
  show G E Γ 1 0 [(0, .ref 3)] [] M
  unfold fX3_begin at h
  refine g_aload_n (i := 0) (x := 3) hC (dX3_begin_0) rfl rfl ?_
  refine g_iconst (v := 0) hC (dX3_begin_1) kc_0 ?_
  refine g_putI hC fpX3_13 (dX3_begin_2) rfl rfl rfl rfl ?_
  refine g_nmM (fun M2 e_M2 => ?_)
  have h := wpI_n e_M2 h
  refine g_vreturn hC hr (dX3_begin_5) ?_
  exact wpI_s h
/-! LostByState$Row.tell(J)V -/
theorem dX3_tell_0 : decode cX3_tell 0 = .ok (.aload_n 0, 1) := by decide +kernel
theorem dX3_tell_1 : decode cX3_tell 1 = .ok (.getfield 13, 3) := by decide +kernel
theorem dX3_tell_4 : decode cX3_tell 4 = .ok (.aload_n 0, 1) := by decide +kernel
theorem dX3_tell_5 : decode cX3_tell 5 = .ok (.getfield 7, 3) := by decide +kernel
theorem dX3_tell_8 : decode cX3_tell 8 = .ok (.arraylength, 1) := by decide +kernel
theorem dX3_tell_9 : decode cX3_tell 9 = .ok (.if_icmp .ge 23, 3) := by decide +kernel
theorem dX3_tell_12 : decode cX3_tell 12 = .ok (.aload_n 0, 1) := by decide +kernel
theorem dX3_tell_13 : decode cX3_tell 13 = .ok (.getfield 7, 3) := by decide +kernel
theorem dX3_tell_16 : decode cX3_tell 16 = .ok (.aload_n 0, 1) := by decide +kernel
theorem dX3_tell_17 : decode cX3_tell 17 = .ok (.getfield 13, 3) := by decide +kernel
theorem dX3_tell_20 : decode cX3_tell 20 = .ok (.lload_n 1, 1) := by decide +kernel
theorem dX3_tell_21 : decode cX3_tell 21 = .ok (.lastore, 1) := by decide +kernel
theorem dX3_tell_22 : decode cX3_tell 22 = .ok (.aload_n 0, 1) := by decide +kernel
theorem dX3_tell_23 : decode cX3_tell 23 = .ok (.dup, 1) := by decide +kernel
theorem dX3_tell_24 : decode cX3_tell 24 = .ok (.getfield 13, 3) := by decide +kernel
theorem dX3_tell_27 : decode cX3_tell 27 = .ok (.iconst 1, 1) := by decide +kernel
theorem dX3_tell_28 : decode cX3_tell 28 = .ok (.iadd, 1) := by decide +kernel
theorem dX3_tell_29 : decode cX3_tell 29 = .ok (.putfield 13, 3) := by decide +kernel
theorem dX3_tell_32 : decode cX3_tell 32 = .ok (.return_, 1) := by decide +kernel
def fX3_tell (x1 : Int64) (M : zM) : Option zM := if 16 ≤ (M.1 3 1) then (
  some M)
  else (
  if zin (M.1 3 1) 16 then (
  zlet (zSJ M 4 (M.1 3 1).toNatClampNeg x1) fun (M21 : zM) =>
  zlet (zSI M21 3 1 ((M21.1 3 1) + 1)) fun (M29 : zM) =>
  some M29) else none)
set_option maxHeartbeats 4000000 in
theorem cX3_tell_ok {E : zE} {d : Nat} (hd : 0 ≤ d) (x1 : Int64) (M : zM) {K : zM → Prop} (h : wpO (fX3_tell x1 M) K) : CMv E d yX3_tell cX3_tell 3 (none) [.ref 3, .long x1] M K := by
  refine CMv.of (by decide) (Nat.le_of_ble_eq_true rfl) (fun Γ hC hr => ?_)
  have hC : Cx E Γ RX3 cX3_tell 3 d := hC
  show G E Γ 3 0 [(0, .ref 3), (1, .long x1)] [] M
  unfold fX3_tell at h
  refine g_aload_n (i := 0) (x := 3) hC (dX3_tell_0) rfl rfl ?_
  refine g_getI hC flX3_13 (dX3_tell_1) rfl rfl ?_
  refine g_aload_n (i := 0) (x := 3) hC (dX3_tell_4) rfl rfl ?_
  refine g_getR (r := 4) hC flX3_7 (dX3_tell_5) rfl rfl rfl ?_
  refine g_alen (ek := 1) (n := 16) (v := 16) hC (dX3_tell_8) rfl (by decide) rfl ?_
  refine g_icmp_ge (tgt := 32) hC (dX3_tell_9) (by decide) (fun c9 => ?_) (fun c9 => ?_)
  · have h := wpO_t c9 h
    refine g_vreturn hC hr (dX3_tell_32) ?_
    exact wpO_s h
  · have h := wpO_f c9 h
    refine g_aload_n (i := 0) (x := 3) hC (dX3_tell_12) rfl rfl ?_
    refine g_getR (r := 4) hC flX3_7 (dX3_tell_13) rfl rfl rfl ?_
    refine g_aload_n (i := 0) (x := 3) hC (dX3_tell_16) rfl rfl ?_
    refine g_getI hC flX3_13 (dX3_tell_17) rfl rfl ?_
    refine g_lload_n (i := 1) (x := x1) hC (dX3_tell_20) rfl rfl ?_
    obtain ⟨q1, h⟩ := wpO_g h
    refine g_lastore (n := 16) hC (dX3_tell_21) rfl q1 ?_
    refine g_nmM (fun M21 e_M21 => ?_)
    have h := wpO_n e_M21 h
    refine g_aload_n (i := 0) (x := 3) hC (dX3_tell_22) rfl rfl ?_
    refine g_dup hC (dX3_tell_23) rfl ?_
    refine g_getI hC flX3_13 (dX3_tell_24) rfl rfl ?_
    refine g_iconst (v := 1) hC (dX3_tell_27) kc_1 ?_
    refine g_iadd hC (dX3_tell_28) ?_
    refine g_putI hC fpX3_13 (dX3_tell_29) rfl rfl rfl rfl ?_
    refine g_nmM (fun M29 e_M29 => ?_)
    have h := wpO_n e_M29 h
    refine g_vreturn hC hr (dX3_tell_32) ?_
    exact wpO_s h
/-! LostByState$Row.commonDivisor(JJ)J -/
theorem dX3_commonDivisor_0 : decode cX3_commonDivisor 0 = .ok (.lload_n 0, 1) := by decide +kernel
theorem dX3_commonDivisor_1 : decode cX3_commonDivisor 1 = .ok (.lstore 4, 2) := by decide +kernel
theorem dX3_commonDivisor_3 : decode cX3_commonDivisor 3 = .ok (.lload_n 2, 1) := by decide +kernel
theorem dX3_commonDivisor_4 : decode cX3_commonDivisor 4 = .ok (.lstore 6, 2) := by decide +kernel
theorem dX3_commonDivisor_6 : decode cX3_commonDivisor 6 = .ok (.iconst 0, 1) := by decide +kernel
theorem dX3_commonDivisor_7 : decode cX3_commonDivisor 7 = .ok (.istore 8, 2) := by decide +kernel
theorem dX3_commonDivisor_9 : decode cX3_commonDivisor 9 = .ok (.iload 8, 2) := by decide +kernel
theorem dX3_commonDivisor_11 : decode cX3_commonDivisor 11 = .ok (.sipush 200, 3) := by decide +kernel
theorem dX3_commonDivisor_14 : decode cX3_commonDivisor 14 = .ok (.if_icmp .ge 31, 3) := by decide +kernel
theorem dX3_commonDivisor_17 : decode cX3_commonDivisor 17 = .ok (.lload 6, 2) := by decide +kernel
theorem dX3_commonDivisor_19 : decode cX3_commonDivisor 19 = .ok (.lconst 0, 1) := by decide +kernel
theorem dX3_commonDivisor_20 : decode cX3_commonDivisor 20 = .ok (.lcmp, 1) := by decide +kernel
theorem dX3_commonDivisor_21 : decode cX3_commonDivisor 21 = .ok (.ifCond .eq 24, 3) := by decide +kernel
theorem dX3_commonDivisor_24 : decode cX3_commonDivisor 24 = .ok (.lload 4, 2) := by decide +kernel
theorem dX3_commonDivisor_26 : decode cX3_commonDivisor 26 = .ok (.lload 6, 2) := by decide +kernel
theorem dX3_commonDivisor_28 : decode cX3_commonDivisor 28 = .ok (.lrem, 1) := by decide +kernel
theorem dX3_commonDivisor_29 : decode cX3_commonDivisor 29 = .ok (.lstore 9, 2) := by decide +kernel
theorem dX3_commonDivisor_31 : decode cX3_commonDivisor 31 = .ok (.lload 6, 2) := by decide +kernel
theorem dX3_commonDivisor_33 : decode cX3_commonDivisor 33 = .ok (.lstore 4, 2) := by decide +kernel
theorem dX3_commonDivisor_35 : decode cX3_commonDivisor 35 = .ok (.lload 9, 2) := by decide +kernel
theorem dX3_commonDivisor_37 : decode cX3_commonDivisor 37 = .ok (.lstore 6, 2) := by decide +kernel
theorem dX3_commonDivisor_39 : decode cX3_commonDivisor 39 = .ok (.iinc 8 1, 3) := by decide +kernel
theorem dX3_commonDivisor_42 : decode cX3_commonDivisor 42 = .ok (.goto (-33), 3) := by decide +kernel
theorem dX3_commonDivisor_45 : decode cX3_commonDivisor 45 = .ok (.lload 4, 2) := by decide +kernel
theorem dX3_commonDivisor_47 : decode cX3_commonDivisor 47 = .ok (.lreturn, 1) := by decide +kernel
def fX3_commonDivisor_L9 : Nat → Int64 → Int64 → Int32 → Option Int64
  | 0, _, _, _ => none
  | n + 1, x4, x6, x8 => if 200 ≤ x8 then (
    some x4)
    else (
    if (lg_cmp x6 0) = 0 then (
    some x4)
    else (
    if ¬ x6 = 0 then (
    zlet (zlrem x4 x6) fun (x9_29 : Int64) =>
    fX3_commonDivisor_L9 n x6 x9_29 (x8 + 1)) else none))
def fX3_commonDivisor (x0 : Int64) (x2 : Int64) : Option Int64 := (fX3_commonDivisor_L9 4000 x0 x2 0).bind fun (x4_45 : Int64) =>
  some x4_45
set_option maxHeartbeats 4000000 in
theorem lX3_commonDivisor_9 {E : zE} {Γ : zT} {d : Nat} {K1 : Int64 → Prop} (hC : Cx E Γ RX3 cX3_commonDivisor 11 d) (hd : 0 ≤ d) (M : zM) (hx : ∀ (x4_45 : Int64), K1 x4_45 → G E Γ 11 45 [(4, .long x4_45)] [] M) :
    ∀ (n : Nat) (x4 : Int64) (x6 : Int64) (x8 : Int32), wpO (fX3_commonDivisor_L9 n x4 x6 x8) K1 → G E Γ 11 9 [(4, .long x4), (6, .long x6), (8, .int x8)] [] M := by
  intro n
  induction n with
  | zero =>
    intro x4 x6 x8 h
    exact (wpO_0 h).elim
  | succ n ih =>
    intro x4 x6 x8 h
    rw [fX3_commonDivisor_L9.eq_2] at h
    refine g_iload (i := 8) (x := x8) hC (dX3_commonDivisor_9) rfl ?_
    refine g_sipush (v := 200) hC (dX3_commonDivisor_11) ks_200 ?_
    refine g_icmp_ge (tgt := 45) hC (dX3_commonDivisor_14) (by decide) (fun c14 => ?_) (fun c14 => ?_)
    · have h := wpO_t c14 h
      refine g_sub (lv' := [(4, .long x4)]) [0] rfl ?_
      exact hx _ (wpO_s h)
    · have h := wpO_f c14 h
      refine g_lload (i := 6) (x := x6) hC (dX3_commonDivisor_17) rfl ?_
      refine g_lconst (v := 0) hC (dX3_commonDivisor_19) kl_0 ?_
      refine g_lcmp hC (dX3_commonDivisor_20) ?_
      refine g_if_eq (tgt := 45) hC (dX3_commonDivisor_21) (by decide) (fun c21 => ?_) (fun c21 => ?_)
      · have h := wpO_t c21 h
        refine g_sub (lv' := [(4, .long x4)]) [0] rfl ?_
        exact hx _ (wpO_s h)
      · have h := wpO_f c21 h
        refine g_lload (i := 4) (x := x4) hC (dX3_commonDivisor_24) rfl ?_
        refine g_lload (i := 6) (x := x6) hC (dX3_commonDivisor_26) rfl ?_
        obtain ⟨q1, h⟩ := wpO_g h
        refine g_lrem hC (dX3_commonDivisor_28) q1 ?_
        refine g_nml (fun x9_29 e_x9_29 => ?_)
        have h := wpO_n e_x9_29 h
        refine g_lstore (i := 9) (lv2 := [(9, .long x9_29), (4, .long x4), (6, .long x6), (8, .int x8)]) hC (dX3_commonDivisor_29) (by decide) rfl ?_
        refine g_lload (i := 6) (x := x6) hC (dX3_commonDivisor_31) rfl ?_
        refine g_lstore (i := 4) (lv2 := [(4, .long x6), (9, .long x9_29), (6, .long x6), (8, .int x8)]) hC (dX3_commonDivisor_33) (by decide) rfl ?_
        refine g_lload (i := 9) (x := x9_29) hC (dX3_commonDivisor_35) rfl ?_
        refine g_lstore (i := 6) (lv2 := [(6, .long x9_29), (4, .long x6), (9, .long x9_29), (8, .int x8)]) hC (dX3_commonDivisor_37) (by decide) rfl ?_
        refine g_iinc (x := x8) (v := (x8 + 1)) (lv2 := [(8, .int (x8 + 1)), (6, .long x9_29), (4, .long x6), (9, .long x9_29)]) hC (dX3_commonDivisor_39) rfl rfl (by decide) rfl ?_
        refine g_goto (tgt := 9) hC (dX3_commonDivisor_42) (by decide) ?_
        refine g_sub (lv' := [(4, .long x6), (6, .long x9_29), (8, .int (x8 + 1))]) [2, 1, 0] rfl ?_
        exact ih _ _ _ h
set_option maxHeartbeats 4000000 in
theorem cX3_commonDivisor_ok {E : zE} {d : Nat} (hd : 0 ≤ d) (x0 : Int64) (x2 : Int64) (M : zM) {K : Int64 → Prop} (h : wpO (fX3_commonDivisor x0 x2) K) : CMl E d yX3_commonDivisor cX3_commonDivisor 11 (some .long) [.long x0, .long x2] M (fun r N => M = N ∧ K r) := by
  refine CMl.of (by decide) (Nat.le_of_ble_eq_true rfl) (fun Γ hC hr => ?_)
  have hC : Cx E Γ RX3 cX3_commonDivisor 11 d := hC
  show G E Γ 11 0 [(0, .long x0), (2, .long x2)] [] M
  unfold fX3_commonDivisor at h
  refine g_lload_n (i := 0) (x := x0) hC (dX3_commonDivisor_0) rfl rfl ?_
  refine g_lstore (i := 4) (lv2 := [(4, .long x0), (0, .long x0), (2, .long x2)]) hC (dX3_commonDivisor_1) (by decide) rfl ?_
  refine g_lload_n (i := 2) (x := x2) hC (dX3_commonDivisor_3) rfl rfl ?_
  refine g_lstore (i := 6) (lv2 := [(6, .long x2), (4, .long x0), (0, .long x0), (2, .long x2)]) hC (dX3_commonDivisor_4) (by decide) rfl ?_
  refine g_iconst (v := 0) hC (dX3_commonDivisor_6) kc_0 ?_
  refine g_istore (i := 8) (lv2 := [(8, .int 0), (6, .long x2), (4, .long x0), (0, .long x0), (2, .long x2)]) hC (dX3_commonDivisor_7) (by decide) rfl ?_
  refine g_sub (lv' := [(4, .long x0), (6, .long x2), (8, .int 0)]) [2, 1, 0] rfl ?_
  refine wpO_bJ h (fun KL9 hKL9 h => ?_)
  refine lX3_commonDivisor_9 (K1 := KL9) hC (by omega) M (fun x4_45 h => ?_) _ _ _ _ h
  have h := hKL9 _ h
  refine g_lload (i := 4) (x := x4_45) hC (dX3_commonDivisor_45) rfl ?_
  refine g_lreturn hC hr (dX3_commonDivisor_47) ?_
  exact ⟨rfl, wpO_s h⟩
/-! LostByState$Row.tellFraction(JJ)V -/
theorem dX3_tellFraction_0 : decode cX3_tellFraction 0 = .ok (.lload_n 1, 1) := by decide +kernel
theorem dX3_tellFraction_1 : decode cX3_tellFraction 1 = .ok (.lload_n 3, 1) := by decide +kernel
theorem dX3_tellFraction_2 : decode cX3_tellFraction 2 = .ok (.invokestatic 17, 3) := by decide +kernel
theorem dX3_tellFraction_5 : decode cX3_tellFraction 5 = .ok (.lstore 5, 2) := by decide +kernel
theorem dX3_tellFraction_7 : decode cX3_tellFraction 7 = .ok (.aload_n 0, 1) := by decide +kernel
theorem dX3_tellFraction_8 : decode cX3_tellFraction 8 = .ok (.lload 5, 2) := by decide +kernel
theorem dX3_tellFraction_10 : decode cX3_tellFraction 10 = .ok (.lconst 0, 1) := by decide +kernel
theorem dX3_tellFraction_11 : decode cX3_tellFraction 11 = .ok (.lcmp, 1) := by decide +kernel
theorem dX3_tellFraction_12 : decode cX3_tellFraction 12 = .ok (.ifCond .ne 7, 3) := by decide +kernel
theorem dX3_tellFraction_15 : decode cX3_tellFraction 15 = .ok (.lload_n 1, 1) := by decide +kernel
theorem dX3_tellFraction_16 : decode cX3_tellFraction 16 = .ok (.goto 7, 3) := by decide +kernel
theorem dX3_tellFraction_19 : decode cX3_tellFraction 19 = .ok (.lload_n 1, 1) := by decide +kernel
theorem dX3_tellFraction_20 : decode cX3_tellFraction 20 = .ok (.lload 5, 2) := by decide +kernel
theorem dX3_tellFraction_22 : decode cX3_tellFraction 22 = .ok (.ldiv, 1) := by decide +kernel
theorem dX3_tellFraction_23 : decode cX3_tellFraction 23 = .ok (.invokevirtual 21, 3) := by decide +kernel
theorem dX3_tellFraction_26 : decode cX3_tellFraction 26 = .ok (.aload_n 0, 1) := by decide +kernel
theorem dX3_tellFraction_27 : decode cX3_tellFraction 27 = .ok (.lload 5, 2) := by decide +kernel
theorem dX3_tellFraction_29 : decode cX3_tellFraction 29 = .ok (.lconst 0, 1) := by decide +kernel
theorem dX3_tellFraction_30 : decode cX3_tellFraction 30 = .ok (.lcmp, 1) := by decide +kernel
theorem dX3_tellFraction_31 : decode cX3_tellFraction 31 = .ok (.ifCond .ne 7, 3) := by decide +kernel
theorem dX3_tellFraction_34 : decode cX3_tellFraction 34 = .ok (.lload_n 3, 1) := by decide +kernel
theorem dX3_tellFraction_35 : decode cX3_tellFraction 35 = .ok (.goto 7, 3) := by decide +kernel
theorem dX3_tellFraction_38 : decode cX3_tellFraction 38 = .ok (.lload_n 3, 1) := by decide +kernel
theorem dX3_tellFraction_39 : decode cX3_tellFraction 39 = .ok (.lload 5, 2) := by decide +kernel
theorem dX3_tellFraction_41 : decode cX3_tellFraction 41 = .ok (.ldiv, 1) := by decide +kernel
theorem dX3_tellFraction_42 : decode cX3_tellFraction 42 = .ok (.invokevirtual 21, 3) := by decide +kernel
theorem dX3_tellFraction_45 : decode cX3_tellFraction 45 = .ok (.return_, 1) := by decide +kernel
def fX3_tellFraction (x1 : Int64) (x3 : Int64) (M : zM) : Option zM := (fX3_commonDivisor x1 x3).bind fun (r1 : Int64) =>
  (if (lg_cmp r1 0) = 0 then (
  some x1)
  else (
  if ¬ r1 = 0 then (
  some (x1 / r1)) else none) : Option Int64).bind fun (s0_23 : Int64) =>
  (fX3_tell s0_23 M).bind fun (M23 : zM) =>
  (if (lg_cmp r1 0) = 0 then (
  some x3)
  else (
  if ¬ r1 = 0 then (
  some (x3 / r1)) else none) : Option Int64).bind fun (s0_42 : Int64) =>
  (fX3_tell s0_42 M23).bind fun (M42 : zM) =>
  some M42
set_option maxHeartbeats 4000000 in
theorem cX3_tellFraction_ok {E : zE} {d : Nat} (hd : 1 ≤ d) (x1 : Int64) (x3 : Int64) (M : zM) {K : zM → Prop} (h : wpO (fX3_tellFraction x1 x3 M) K) : CMv E d yX3_tellFraction cX3_tellFraction 7 (none) [.ref 3, .long x1, .long x3] M K := by
  refine CMv.of (by decide) (Nat.le_of_ble_eq_true rfl) (fun Γ hC hr => ?_)
  have hC : Cx E Γ RX3 cX3_tellFraction 7 d := hC
  show G E Γ 7 0 [(0, .ref 3), (1, .long x1), (3, .long x3)] [] M
  unfold fX3_tellFraction at h
  refine g_lload_n (i := 1) (x := x1) hC (dX3_tellFraction_0) rfl rfl ?_
  refine g_lload_n (i := 3) (x := x3) hC (dX3_tellFraction_1) rfl rfl ?_
  have h := wpO_b h
  refine g_callSl ([.long x1, .long x3]) hC wsX3_17 (dX3_tellFraction_2) rfl (by omega) (Nat.le_of_ble_eq_true rfl) (cX3_commonDivisor_ok (by omega) x1 x3 M h) (fun r1 N q => ?_)
  obtain ⟨rfl, h⟩ := q
  refine g_lstore (i := 5) (lv2 := [(5, .long r1), (0, .ref 3), (1, .long x1), (3, .long x3)]) hC (dX3_tellFraction_5) (by decide) rfl ?_
  refine g_aload_n (i := 0) (x := 3) hC (dX3_tellFraction_7) rfl rfl ?_
  refine g_lload (i := 5) (x := r1) hC (dX3_tellFraction_8) rfl ?_
  refine g_lconst (v := 0) hC (dX3_tellFraction_10) kl_0 ?_
  refine g_lcmp hC (dX3_tellFraction_11) ?_
  refine wpO_bJ h (fun KJ2 hKJ2 h => ?_)
  have hJ2 : ∀ (s0_23 : Int64), KJ2 s0_23 → G E Γ 7 23 [(0, .ref 3), (3, .long x3), (5, .long r1)] [.long s0_23, .ref 3] M := by
    intro s0_23 h
    have h := hKJ2 _ h
    have h := wpO_b h
    refine g_callVv ([.long s0_23]) hC wvX3_21 (dX3_tellFraction_23) rfl rfl (by omega) (Nat.le_of_ble_eq_true rfl) (cX3_tell_ok (by omega) s0_23 M h) (fun M23 h => ?_)
    refine g_aload_n (i := 0) (x := 3) hC (dX3_tellFraction_26) rfl rfl ?_
    refine g_lload (i := 5) (x := r1) hC (dX3_tellFraction_27) rfl ?_
    refine g_lconst (v := 0) hC (dX3_tellFraction_29) kl_0 ?_
    refine g_lcmp hC (dX3_tellFraction_30) ?_
    refine wpO_bJ h (fun KJ5 hKJ5 h => ?_)
    have hJ5 : ∀ (s0_42 : Int64), KJ5 s0_42 → G E Γ 7 42 [] [.long s0_42, .ref 3] M23 := by
      intro s0_42 h
      have h := hKJ5 _ h
      have h := wpO_b h
      refine g_callVv ([.long s0_42]) hC wvX3_21 (dX3_tellFraction_42) rfl rfl (by omega) (Nat.le_of_ble_eq_true rfl) (cX3_tell_ok (by omega) s0_42 M23 h) (fun M42 h => ?_)
      refine g_vreturn hC hr (dX3_tellFraction_45) ?_
      exact wpO_s h
    refine g_if_ne (tgt := 38) hC (dX3_tellFraction_31) (by decide) (fun c31 => ?_) (fun c31 => ?_)
    · have h := wpO_f c31 h
      refine g_lload_n (i := 3) (x := x3) hC (dX3_tellFraction_38) rfl rfl ?_
      refine g_lload (i := 5) (x := r1) hC (dX3_tellFraction_39) rfl ?_
      obtain ⟨q6, h⟩ := wpO_g h
      refine g_ldiv hC (dX3_tellFraction_41) q6 ?_
      refine g_sub (lv' := []) [] rfl ?_
      exact hJ5 _ (wpO_s h)
    · have h := wpO_t c31 h
      refine g_lload_n (i := 3) (x := x3) hC (dX3_tellFraction_34) rfl rfl ?_
      refine g_goto (tgt := 42) hC (dX3_tellFraction_35) (by decide) ?_
      refine g_sub (lv' := []) [] rfl ?_
      exact hJ5 _ (wpO_s h)
  refine g_if_ne (tgt := 19) hC (dX3_tellFraction_12) (by decide) (fun c12 => ?_) (fun c12 => ?_)
  · have h := wpO_f c12 h
    refine g_lload_n (i := 1) (x := x1) hC (dX3_tellFraction_19) rfl rfl ?_
    refine g_lload (i := 5) (x := r1) hC (dX3_tellFraction_20) rfl ?_
    obtain ⟨q3, h⟩ := wpO_g h
    refine g_ldiv hC (dX3_tellFraction_22) q3 ?_
    refine g_sub (lv' := [(0, .ref 3), (3, .long x3), (5, .long r1)]) [1, 3, 0] rfl ?_
    exact hJ2 _ (wpO_s h)
  · have h := wpO_t c12 h
    refine g_lload_n (i := 1) (x := x1) hC (dX3_tellFraction_15) rfl rfl ?_
    refine g_goto (tgt := 23) hC (dX3_tellFraction_16) (by decide) ?_
    refine g_sub (lv' := [(0, .ref 3), (3, .long x3), (5, .long r1)]) [1, 3, 0] rfl ?_
    exact hJ2 _ (wpO_s h)
/-! LostByState$Row.putFraction(IJJ)V -/
theorem dX3_putFraction_0 : decode cX3_putFraction 0 = .ok (.aload_n 0, 1) := by decide +kernel
theorem dX3_putFraction_1 : decode cX3_putFraction 1 = .ok (.getfield 13, 3) := by decide +kernel
theorem dX3_putFraction_4 : decode cX3_putFraction 4 = .ok (.istore 6, 2) := by decide +kernel
theorem dX3_putFraction_6 : decode cX3_putFraction 6 = .ok (.iload_n 1, 1) := by decide +kernel
theorem dX3_putFraction_7 : decode cX3_putFraction 7 = .ok (.ifCond .lt 29, 3) := by decide +kernel
theorem dX3_putFraction_10 : decode cX3_putFraction 10 = .ok (.iload_n 1, 1) := by decide +kernel
theorem dX3_putFraction_11 : decode cX3_putFraction 11 = .ok (.iconst 2, 1) := by decide +kernel
theorem dX3_putFraction_12 : decode cX3_putFraction 12 = .ok (.iadd, 1) := by decide +kernel
theorem dX3_putFraction_13 : decode cX3_putFraction 13 = .ok (.iload 6, 2) := by decide +kernel
theorem dX3_putFraction_15 : decode cX3_putFraction 15 = .ok (.if_icmp .gt 21, 3) := by decide +kernel
theorem dX3_putFraction_18 : decode cX3_putFraction 18 = .ok (.aload_n 0, 1) := by decide +kernel
theorem dX3_putFraction_19 : decode cX3_putFraction 19 = .ok (.iload_n 1, 1) := by decide +kernel
theorem dX3_putFraction_20 : decode cX3_putFraction 20 = .ok (.putfield 13, 3) := by decide +kernel
theorem dX3_putFraction_23 : decode cX3_putFraction 23 = .ok (.aload_n 0, 1) := by decide +kernel
theorem dX3_putFraction_24 : decode cX3_putFraction 24 = .ok (.lload_n 2, 1) := by decide +kernel
theorem dX3_putFraction_25 : decode cX3_putFraction 25 = .ok (.lload 4, 2) := by decide +kernel
theorem dX3_putFraction_27 : decode cX3_putFraction 27 = .ok (.invokevirtual 25, 3) := by decide +kernel
theorem dX3_putFraction_30 : decode cX3_putFraction 30 = .ok (.aload_n 0, 1) := by decide +kernel
theorem dX3_putFraction_31 : decode cX3_putFraction 31 = .ok (.iload 6, 2) := by decide +kernel
theorem dX3_putFraction_33 : decode cX3_putFraction 33 = .ok (.putfield 13, 3) := by decide +kernel
theorem dX3_putFraction_36 : decode cX3_putFraction 36 = .ok (.return_, 1) := by decide +kernel
def fX3_putFraction (x1 : Int32) (x2 : Int64) (x4 : Int64) (M : zM) : Option zM := zlet (M.1 3 1) fun (x6_4 : Int32) =>
  if x1 < 0 then (
  some M)
  else (
  if x6_4 < (x1 + 2) then (
  some M)
  else (
  zlet (zSI M 3 1 x1) fun (M20 : zM) =>
  (fX3_tellFraction x2 x4 M20).bind fun (M27 : zM) =>
  zlet (zSI M27 3 1 x6_4) fun (M33 : zM) =>
  some M33))
set_option maxHeartbeats 4000000 in
theorem cX3_putFraction_ok {E : zE} {d : Nat} (hd : 2 ≤ d) (x1 : Int32) (x2 : Int64) (x4 : Int64) (M : zM) {K : zM → Prop} (h : wpO (fX3_putFraction x1 x2 x4 M) K) : CMv E d yX3_putFraction cX3_putFraction 7 (none) [.ref 3, .int x1, .long x2, .long x4] M K := by
  refine CMv.of (by decide) (Nat.le_of_ble_eq_true rfl) (fun Γ hC hr => ?_)
  have hC : Cx E Γ RX3 cX3_putFraction 7 d := hC
  show G E Γ 7 0 [(0, .ref 3), (1, .int x1), (2, .long x2), (4, .long x4)] [] M
  unfold fX3_putFraction at h
  refine g_aload_n (i := 0) (x := 3) hC (dX3_putFraction_0) rfl rfl ?_
  refine g_getI hC flX3_13 (dX3_putFraction_1) rfl rfl ?_
  refine g_nmi (fun x6_4 e_x6_4 => ?_)
  have h := wpO_n e_x6_4 h
  refine g_istore (i := 6) (lv2 := [(6, .int x6_4), (0, .ref 3), (1, .int x1), (2, .long x2), (4, .long x4)]) hC (dX3_putFraction_4) (by decide) rfl ?_
  refine g_iload_n (i := 1) (x := x1) hC (dX3_putFraction_6) rfl rfl ?_
  refine g_if_lt (tgt := 36) hC (dX3_putFraction_7) (by decide) (fun c7 => ?_) (fun c7 => ?_)
  · have h := wpO_t c7 h
    refine g_vreturn hC hr (dX3_putFraction_36) ?_
    exact wpO_s h
  · have h := wpO_f c7 h
    refine g_iload_n (i := 1) (x := x1) hC (dX3_putFraction_10) rfl rfl ?_
    refine g_iconst (v := 2) hC (dX3_putFraction_11) kc_2 ?_
    refine g_iadd hC (dX3_putFraction_12) ?_
    refine g_iload (i := 6) (x := x6_4) hC (dX3_putFraction_13) rfl ?_
    refine g_icmp_gt (tgt := 36) hC (dX3_putFraction_15) (by decide) (fun c15 => ?_) (fun c15 => ?_)
    · have h := wpO_t c15 h
      refine g_vreturn hC hr (dX3_putFraction_36) ?_
      exact wpO_s h
    · have h := wpO_f c15 h
      refine g_aload_n (i := 0) (x := 3) hC (dX3_putFraction_18) rfl rfl ?_
      refine g_iload_n (i := 1) (x := x1) hC (dX3_putFraction_19) rfl rfl ?_
      refine g_putI hC fpX3_13 (dX3_putFraction_20) rfl rfl rfl rfl ?_
      refine g_nmM (fun M20 e_M20 => ?_)
      have h := wpO_n e_M20 h
      refine g_aload_n (i := 0) (x := 3) hC (dX3_putFraction_23) rfl rfl ?_
      refine g_lload_n (i := 2) (x := x2) hC (dX3_putFraction_24) rfl rfl ?_
      refine g_lload (i := 4) (x := x4) hC (dX3_putFraction_25) rfl ?_
      have h := wpO_b h
      refine g_callVv ([.long x2, .long x4]) hC wvX3_25 (dX3_putFraction_27) rfl rfl (by omega) (Nat.le_of_ble_eq_true rfl) (cX3_tellFraction_ok (by omega) x2 x4 M20 h) (fun M27 h => ?_)
      refine g_aload_n (i := 0) (x := 3) hC (dX3_putFraction_30) rfl rfl ?_
      refine g_iload (i := 6) (x := x6_4) hC (dX3_putFraction_31) rfl ?_
      refine g_putI hC fpX3_13 (dX3_putFraction_33) rfl rfl rfl rfl ?_
      refine g_nmM (fun M33 e_M33 => ?_)
      have h := wpO_n e_M33 h
      refine g_vreturn hC hr (dX3_putFraction_36) ?_
      exact wpO_s h
/-! LostByState$Rule.becomePlain()V -/
theorem dX4_becomePlain_0 : decode cX4_becomePlain 0 = .ok (.getstatic 28, 3) := by decide +kernel
theorem dX4_becomePlain_3 : decode cX4_becomePlain 3 = .ok (.iconst 0, 1) := by decide +kernel
theorem dX4_becomePlain_4 : decode cX4_becomePlain 4 = .ok (.aload_n 0, 1) := by decide +kernel
theorem dX4_becomePlain_5 : decode cX4_becomePlain 5 = .ok (.getfield 9, 3) := by decide +kernel
theorem dX4_becomePlain_8 : decode cX4_becomePlain 8 = .ok (.iconst 0, 1) := by decide +kernel
theorem dX4_becomePlain_9 : decode cX4_becomePlain 9 = .ok (.getstatic 28, 3) := by decide +kernel
theorem dX4_becomePlain_12 : decode cX4_becomePlain 12 = .ok (.arraylength, 1) := by decide +kernel
theorem dX4_becomePlain_13 : decode cX4_becomePlain 13 = .ok (.invokestatic 31, 3) := by decide +kernel
theorem dX4_becomePlain_16 : decode cX4_becomePlain 16 = .ok (.aload_n 0, 1) := by decide +kernel
theorem dX4_becomePlain_17 : decode cX4_becomePlain 17 = .ok (.getstatic 28, 3) := by decide +kernel
theorem dX4_becomePlain_20 : decode cX4_becomePlain 20 = .ok (.arraylength, 1) := by decide +kernel
theorem dX4_becomePlain_21 : decode cX4_becomePlain 21 = .ok (.putfield 21, 3) := by decide +kernel
theorem dX4_becomePlain_24 : decode cX4_becomePlain 24 = .ok (.return_, 1) := by decide +kernel
def fX4_becomePlain (x0 : Nat) (M : zM) : Option zM := if zSH x0 = .inl 4 then (
  zlet (zSA M (x0 + 1) (va_cpy (fun j => zPlain.getD j 0) (M.1 (x0 + 1)) 0 0 9)) fun (M13 : zM) =>
  zlet (zSI M13 x0 3 9) fun (M21 : zM) =>
  some M21) else none
set_option maxHeartbeats 4000000 in
theorem cX4_becomePlain_ok {E : zE} {d : Nat} (hd : 1 ≤ d) (x0 : Nat) (M : zM) {K : zM → Prop} (h : wpO (fX4_becomePlain x0 M) K) : CMv E d yX4_becomePlain cX4_becomePlain 1 (none) [.ref x0] M K := by
  refine CMv.of (by decide) (Nat.le_of_ble_eq_true rfl) (fun Γ hC hr => ?_)
  have hC : Cx E Γ RX4 cX4_becomePlain 1 d := hC
  show G E Γ 1 0 [(0, .ref x0)] [] M
  unfold fX4_becomePlain at h
  refine g_getsP hC m_156 (dX4_becomePlain_0) ?_
  refine g_iconst (v := 0) hC (dX4_becomePlain_3) kc_0 ?_
  refine g_aload_n (i := 0) (x := x0) hC (dX4_becomePlain_4) rfl rfl ?_
  obtain ⟨q1, h⟩ := wpO_g h
  refine g_getR (r := x0 + 1) hC flX4_9 (dX4_becomePlain_5) q1 rfl (zRFr1 q1) ?_
  refine g_iconst (v := 0) hC (dX4_becomePlain_8) kc_0 ?_
  refine g_getsP hC m_156 (dX4_becomePlain_9) ?_
  refine g_alenP hC (dX4_becomePlain_12) ?_
  refine g_copyP hC wcX4_31 (dX4_becomePlain_13) (zSHr1 q1) (by decide) (by omega) (Nat.le_of_ble_eq_true rfl) ?_
  refine g_nmM (fun M13 e_M13 => ?_)
  have h := wpO_n e_M13 h
  refine g_aload_n (i := 0) (x := x0) hC (dX4_becomePlain_16) rfl rfl ?_
  refine g_getsP hC m_156 (dX4_becomePlain_17) ?_
  refine g_alenP hC (dX4_becomePlain_20) ?_
  refine g_putI hC fpX4_21 (dX4_becomePlain_21) q1 rfl rfl rfl ?_
  refine g_nmM (fun M21 e_M21 => ?_)
  have h := wpO_n e_M21 h
  refine g_vreturn hC hr (dX4_becomePlain_24) ?_
  exact wpO_s h
/-! LostByState$Rule.become(LLostByState$Rule;)V -/
theorem dX4_become_0 : decode cX4_become 0 = .ok (.aload_n 1, 1) := by decide +kernel
theorem dX4_become_1 : decode cX4_become 1 = .ok (.getfield 9, 3) := by decide +kernel
theorem dX4_become_4 : decode cX4_become 4 = .ok (.iconst 0, 1) := by decide +kernel
theorem dX4_become_5 : decode cX4_become 5 = .ok (.aload_n 0, 1) := by decide +kernel
theorem dX4_become_6 : decode cX4_become 6 = .ok (.getfield 9, 3) := by decide +kernel
theorem dX4_become_9 : decode cX4_become 9 = .ok (.iconst 0, 1) := by decide +kernel
theorem dX4_become_10 : decode cX4_become 10 = .ok (.bipush 40, 2) := by decide +kernel
theorem dX4_become_12 : decode cX4_become 12 = .ok (.invokestatic 31, 3) := by decide +kernel
theorem dX4_become_15 : decode cX4_become 15 = .ok (.aload_n 0, 1) := by decide +kernel
theorem dX4_become_16 : decode cX4_become 16 = .ok (.aload_n 1, 1) := by decide +kernel
theorem dX4_become_17 : decode cX4_become 17 = .ok (.getfield 21, 3) := by decide +kernel
theorem dX4_become_20 : decode cX4_become 20 = .ok (.putfield 21, 3) := by decide +kernel
theorem dX4_become_23 : decode cX4_become 23 = .ok (.return_, 1) := by decide +kernel
def fX4_become (x0 : Nat) (x1 : Nat) (M : zM) : Option zM := if zSH x1 = .inl 4 then (
  if zSH x0 = .inl 4 then (
  zlet (zSA M (x0 + 1) (va_cpy (M.1 (x1 + 1)) (M.1 (x0 + 1)) 0 0 40)) fun (M12 : zM) =>
  zlet (zSI M12 x0 3 (M12.1 x1 3)) fun (M20 : zM) =>
  some M20) else none) else none
set_option maxHeartbeats 4000000 in
theorem cX4_become_ok {E : zE} {d : Nat} (hd : 1 ≤ d) (x0 : Nat) (x1 : Nat) (M : zM) {K : zM → Prop} (h : wpO (fX4_become x0 x1 M) K) : CMv E d yX4_become cX4_become 2 (none) [.ref x0, .ref x1] M K := by
  refine CMv.of (by decide) (Nat.le_of_ble_eq_true rfl) (fun Γ hC hr => ?_)
  have hC : Cx E Γ RX4 cX4_become 2 d := hC
  show G E Γ 2 0 [(0, .ref x0), (1, .ref x1)] [] M
  unfold fX4_become at h
  refine g_aload_n (i := 1) (x := x1) hC (dX4_become_0) rfl rfl ?_
  obtain ⟨q1, h⟩ := wpO_g h
  refine g_getR (r := x1 + 1) hC flX4_9 (dX4_become_1) q1 rfl (zRFr1 q1) ?_
  refine g_iconst (v := 0) hC (dX4_become_4) kc_0 ?_
  refine g_aload_n (i := 0) (x := x0) hC (dX4_become_5) rfl rfl ?_
  obtain ⟨q2, h⟩ := wpO_g h
  refine g_getR (r := x0 + 1) hC flX4_9 (dX4_become_6) q2 rfl (zRFr1 q2) ?_
  refine g_iconst (v := 0) hC (dX4_become_9) kc_0 ?_
  refine g_bipush (v := 40) hC (dX4_become_10) kb_40 ?_
  refine g_copy hC wcX4_31 (dX4_become_12) (zSHr1 q1) (zSHr1 q2) (by decide) (by decide) (by decide) (by decide) (by decide) (by omega) (Nat.le_of_ble_eq_true rfl) ?_
  refine g_nmM (fun M12 e_M12 => ?_)
  have h := wpO_n e_M12 h
  refine g_aload_n (i := 0) (x := x0) hC (dX4_become_15) rfl rfl ?_
  refine g_aload_n (i := 1) (x := x1) hC (dX4_become_16) rfl rfl ?_
  refine g_getI hC flX4_21 (dX4_become_17) q1 rfl ?_
  refine g_putI hC fpX4_21 (dX4_become_20) q2 rfl rfl rfl ?_
  refine g_nmM (fun M20 e_M20 => ?_)
  have h := wpO_n e_M20 h
  refine g_vreturn hC hr (dX4_become_23) ?_
  exact wpO_s h
/-! LostByState$Rule.add(I)V -/
theorem dX4_add_0 : decode cX4_add 0 = .ok (.aload_n 0, 1) := by decide +kernel
theorem dX4_add_1 : decode cX4_add 1 = .ok (.getfield 21, 3) := by decide +kernel
theorem dX4_add_4 : decode cX4_add 4 = .ok (.aload_n 0, 1) := by decide +kernel
theorem dX4_add_5 : decode cX4_add 5 = .ok (.getfield 9, 3) := by decide +kernel
theorem dX4_add_8 : decode cX4_add 8 = .ok (.arraylength, 1) := by decide +kernel
theorem dX4_add_9 : decode cX4_add 9 = .ok (.if_icmp .ge 23, 3) := by decide +kernel
theorem dX4_add_12 : decode cX4_add 12 = .ok (.aload_n 0, 1) := by decide +kernel
theorem dX4_add_13 : decode cX4_add 13 = .ok (.getfield 9, 3) := by decide +kernel
theorem dX4_add_16 : decode cX4_add 16 = .ok (.aload_n 0, 1) := by decide +kernel
theorem dX4_add_17 : decode cX4_add 17 = .ok (.getfield 21, 3) := by decide +kernel
theorem dX4_add_20 : decode cX4_add 20 = .ok (.iload_n 1, 1) := by decide +kernel
theorem dX4_add_21 : decode cX4_add 21 = .ok (.iastore, 1) := by decide +kernel
theorem dX4_add_22 : decode cX4_add 22 = .ok (.aload_n 0, 1) := by decide +kernel
theorem dX4_add_23 : decode cX4_add 23 = .ok (.dup, 1) := by decide +kernel
theorem dX4_add_24 : decode cX4_add 24 = .ok (.getfield 21, 3) := by decide +kernel
theorem dX4_add_27 : decode cX4_add 27 = .ok (.iconst 1, 1) := by decide +kernel
theorem dX4_add_28 : decode cX4_add 28 = .ok (.iadd, 1) := by decide +kernel
theorem dX4_add_29 : decode cX4_add 29 = .ok (.putfield 21, 3) := by decide +kernel
theorem dX4_add_32 : decode cX4_add 32 = .ok (.return_, 1) := by decide +kernel
def fX4_add (x0 : Nat) (x1 : Int32) (M : zM) : Option zM := if zSH x0 = .inl 4 then (
  if 40 ≤ (M.1 x0 3) then (
  some M)
  else (
  if zin (M.1 x0 3) 40 then (
  zlet (zSI M (x0 + 1) (M.1 x0 3).toNatClampNeg x1) fun (M21 : zM) =>
  zlet (zSI M21 x0 3 ((M21.1 x0 3) + 1)) fun (M29 : zM) =>
  some M29) else none)) else none
set_option maxHeartbeats 4000000 in
theorem cX4_add_ok {E : zE} {d : Nat} (hd : 0 ≤ d) (x0 : Nat) (x1 : Int32) (M : zM) {K : zM → Prop} (h : wpO (fX4_add x0 x1 M) K) : CMv E d yX4_add cX4_add 2 (none) [.ref x0, .int x1] M K := by
  refine CMv.of (by decide) (Nat.le_of_ble_eq_true rfl) (fun Γ hC hr => ?_)
  have hC : Cx E Γ RX4 cX4_add 2 d := hC
  show G E Γ 2 0 [(0, .ref x0), (1, .int x1)] [] M
  unfold fX4_add at h
  refine g_aload_n (i := 0) (x := x0) hC (dX4_add_0) rfl rfl ?_
  obtain ⟨q1, h⟩ := wpO_g h
  refine g_getI hC flX4_21 (dX4_add_1) q1 rfl ?_
  refine g_aload_n (i := 0) (x := x0) hC (dX4_add_4) rfl rfl ?_
  refine g_getR (r := x0 + 1) hC flX4_9 (dX4_add_5) q1 rfl (zRFr1 q1) ?_
  refine g_alen (ek := 0) (n := 40) (v := 40) hC (dX4_add_8) (zSHr1 q1) (by decide) rfl ?_
  refine g_icmp_ge (tgt := 32) hC (dX4_add_9) (by decide) (fun c9 => ?_) (fun c9 => ?_)
  · have h := wpO_t c9 h
    refine g_vreturn hC hr (dX4_add_32) ?_
    exact wpO_s h
  · have h := wpO_f c9 h
    refine g_aload_n (i := 0) (x := x0) hC (dX4_add_12) rfl rfl ?_
    refine g_getR (r := x0 + 1) hC flX4_9 (dX4_add_13) q1 rfl (zRFr1 q1) ?_
    refine g_aload_n (i := 0) (x := x0) hC (dX4_add_16) rfl rfl ?_
    refine g_getI hC flX4_21 (dX4_add_17) q1 rfl ?_
    refine g_iload_n (i := 1) (x := x1) hC (dX4_add_20) rfl rfl ?_
    obtain ⟨q2, h⟩ := wpO_g h
    refine g_iastore (n := 40) hC (dX4_add_21) (zSHr1 q1) q2 ?_
    refine g_nmM (fun M21 e_M21 => ?_)
    have h := wpO_n e_M21 h
    refine g_aload_n (i := 0) (x := x0) hC (dX4_add_22) rfl rfl ?_
    refine g_dup hC (dX4_add_23) rfl ?_
    refine g_getI hC flX4_21 (dX4_add_24) q1 rfl ?_
    refine g_iconst (v := 1) hC (dX4_add_27) kc_1 ?_
    refine g_iadd hC (dX4_add_28) ?_
    refine g_putI hC fpX4_21 (dX4_add_29) q1 rfl rfl rfl ?_
    refine g_nmM (fun M29 e_M29 => ?_)
    have h := wpO_n e_M29 h
    refine g_vreturn hC hr (dX4_add_32) ?_
    exact wpO_s h
/-! LostByState$Rule.namedValue(I)I -/
theorem dX4_namedValue_0 : decode cX4_namedValue 0 = .ok (.iload_n 1, 1) := by decide +kernel
theorem dX4_namedValue_1 : decode cX4_namedValue 1 = .ok (.ifCond .lt 21, 3) := by decide +kernel
theorem dX4_namedValue_4 : decode cX4_namedValue 4 = .ok (.iload_n 1, 1) := by decide +kernel
theorem dX4_namedValue_5 : decode cX4_namedValue 5 = .ok (.aload_n 0, 1) := by decide +kernel
theorem dX4_namedValue_6 : decode cX4_namedValue 6 = .ok (.getfield 18, 3) := by decide +kernel
theorem dX4_namedValue_9 : decode cX4_namedValue 9 = .ok (.arraylength, 1) := by decide +kernel
theorem dX4_namedValue_10 : decode cX4_namedValue 10 = .ok (.if_icmp .ge 12, 3) := by decide +kernel
theorem dX4_namedValue_13 : decode cX4_namedValue 13 = .ok (.aload_n 0, 1) := by decide +kernel
theorem dX4_namedValue_14 : decode cX4_namedValue 14 = .ok (.getfield 18, 3) := by decide +kernel
theorem dX4_namedValue_17 : decode cX4_namedValue 17 = .ok (.iload_n 1, 1) := by decide +kernel
theorem dX4_namedValue_18 : decode cX4_namedValue 18 = .ok (.iaload, 1) := by decide +kernel
theorem dX4_namedValue_19 : decode cX4_namedValue 19 = .ok (.goto 4, 3) := by decide +kernel
theorem dX4_namedValue_22 : decode cX4_namedValue 22 = .ok (.iconst 0, 1) := by decide +kernel
theorem dX4_namedValue_23 : decode cX4_namedValue 23 = .ok (.ireturn, 1) := by decide +kernel
def fX4_namedValue (x0 : Nat) (x1 : Int32) (M : zM) : Option Int32 := if x1 < 0 then (
  some 0)
  else (
  if zSH x0 = .inl 4 then (
  if 6 ≤ x1 then (
  some 0)
  else (
  if zin x1 6 then (
  some (M.1 (x0 + 3) x1.toNatClampNeg)) else none)) else none)
set_option maxHeartbeats 4000000 in
theorem cX4_namedValue_ok {E : zE} {d : Nat} (hd : 0 ≤ d) (x0 : Nat) (x1 : Int32) (M : zM) {K : Int32 → Prop} (h : wpO (fX4_namedValue x0 x1 M) K) : CMi E d yX4_namedValue cX4_namedValue 2 (some .int) [.ref x0, .int x1] M (fun r N => M = N ∧ K r) := by
  refine CMi.of (by decide) (Nat.le_of_ble_eq_true rfl) (fun Γ hC hr => ?_)
  have hC : Cx E Γ RX4 cX4_namedValue 2 d := hC
  show G E Γ 2 0 [(0, .ref x0), (1, .int x1)] [] M
  unfold fX4_namedValue at h
  refine g_iload_n (i := 1) (x := x1) hC (dX4_namedValue_0) rfl rfl ?_
  refine g_if_lt (tgt := 22) hC (dX4_namedValue_1) (by decide) (fun c1 => ?_) (fun c1 => ?_)
  · have h := wpO_t c1 h
    refine g_iconst (v := 0) hC (dX4_namedValue_22) kc_0 ?_
    refine g_ireturn hC hr (dX4_namedValue_23) ?_
    exact ⟨rfl, wpO_s h⟩
  · have h := wpO_f c1 h
    refine g_iload_n (i := 1) (x := x1) hC (dX4_namedValue_4) rfl rfl ?_
    refine g_aload_n (i := 0) (x := x0) hC (dX4_namedValue_5) rfl rfl ?_
    obtain ⟨q1, h⟩ := wpO_g h
    refine g_getR (r := x0 + 3) hC flX4_18 (dX4_namedValue_6) q1 rfl (zRFr3 q1) ?_
    refine g_alen (ek := 0) (n := 6) (v := 6) hC (dX4_namedValue_9) (zSHr3 q1) (by decide) rfl ?_
    refine g_icmp_ge (tgt := 22) hC (dX4_namedValue_10) (by decide) (fun c10 => ?_) (fun c10 => ?_)
    · have h := wpO_t c10 h
      refine g_iconst (v := 0) hC (dX4_namedValue_22) kc_0 ?_
      refine g_ireturn hC hr (dX4_namedValue_23) ?_
      exact ⟨rfl, wpO_s h⟩
    · have h := wpO_f c10 h
      refine g_aload_n (i := 0) (x := x0) hC (dX4_namedValue_13) rfl rfl ?_
      refine g_getR (r := x0 + 3) hC flX4_18 (dX4_namedValue_14) q1 rfl (zRFr3 q1) ?_
      refine g_iload_n (i := 1) (x := x1) hC (dX4_namedValue_17) rfl rfl ?_
      obtain ⟨q2, h⟩ := wpO_g h
      refine g_iaload (n := 6) hC (dX4_namedValue_18) (zSHr3 q1) q2 ?_
      refine g_goto (tgt := 23) hC (dX4_namedValue_19) (by decide) ?_
      refine g_ireturn hC hr (dX4_namedValue_23) ?_
      exact ⟨rfl, wpO_s h⟩
/-! LostByState$Rule.joined(III)I -/
theorem dX4_joined_0 : decode cX4_joined 0 = .ok (.iload_n 0, 1) := by decide +kernel
theorem dX4_joined_1 : decode cX4_joined 1 = .ok (.lookupswitch 105 #[(42, 67), (43, 59), (45, 63), (47, 71), (60, 83), (62, 94)], 59) := by decide +kernel
theorem dX4_joined_60 : decode cX4_joined 60 = .ok (.iload_n 1, 1) := by decide +kernel
theorem dX4_joined_61 : decode cX4_joined 61 = .ok (.iload_n 2, 1) := by decide +kernel
theorem dX4_joined_62 : decode cX4_joined 62 = .ok (.iadd, 1) := by decide +kernel
theorem dX4_joined_63 : decode cX4_joined 63 = .ok (.ireturn, 1) := by decide +kernel
theorem dX4_joined_64 : decode cX4_joined 64 = .ok (.iload_n 1, 1) := by decide +kernel
theorem dX4_joined_65 : decode cX4_joined 65 = .ok (.iload_n 2, 1) := by decide +kernel
theorem dX4_joined_66 : decode cX4_joined 66 = .ok (.isub, 1) := by decide +kernel
theorem dX4_joined_67 : decode cX4_joined 67 = .ok (.ireturn, 1) := by decide +kernel
theorem dX4_joined_68 : decode cX4_joined 68 = .ok (.iload_n 1, 1) := by decide +kernel
theorem dX4_joined_69 : decode cX4_joined 69 = .ok (.iload_n 2, 1) := by decide +kernel
theorem dX4_joined_70 : decode cX4_joined 70 = .ok (.imul, 1) := by decide +kernel
theorem dX4_joined_71 : decode cX4_joined 71 = .ok (.ireturn, 1) := by decide +kernel
theorem dX4_joined_72 : decode cX4_joined 72 = .ok (.iload_n 2, 1) := by decide +kernel
theorem dX4_joined_73 : decode cX4_joined 73 = .ok (.ifCond .ne 7, 3) := by decide +kernel
theorem dX4_joined_76 : decode cX4_joined 76 = .ok (.iconst 0, 1) := by decide +kernel
theorem dX4_joined_77 : decode cX4_joined 77 = .ok (.goto 6, 3) := by decide +kernel
theorem dX4_joined_80 : decode cX4_joined 80 = .ok (.iload_n 1, 1) := by decide +kernel
theorem dX4_joined_81 : decode cX4_joined 81 = .ok (.iload_n 2, 1) := by decide +kernel
theorem dX4_joined_82 : decode cX4_joined 82 = .ok (.idiv, 1) := by decide +kernel
theorem dX4_joined_83 : decode cX4_joined 83 = .ok (.ireturn, 1) := by decide +kernel
theorem dX4_joined_84 : decode cX4_joined 84 = .ok (.iload_n 1, 1) := by decide +kernel
theorem dX4_joined_85 : decode cX4_joined 85 = .ok (.iload_n 2, 1) := by decide +kernel
theorem dX4_joined_86 : decode cX4_joined 86 = .ok (.if_icmp .ge 7, 3) := by decide +kernel
theorem dX4_joined_89 : decode cX4_joined 89 = .ok (.iconst 1, 1) := by decide +kernel
theorem dX4_joined_90 : decode cX4_joined 90 = .ok (.goto 4, 3) := by decide +kernel
theorem dX4_joined_93 : decode cX4_joined 93 = .ok (.iconst 0, 1) := by decide +kernel
theorem dX4_joined_94 : decode cX4_joined 94 = .ok (.ireturn, 1) := by decide +kernel
theorem dX4_joined_95 : decode cX4_joined 95 = .ok (.iload_n 1, 1) := by decide +kernel
theorem dX4_joined_96 : decode cX4_joined 96 = .ok (.iload_n 2, 1) := by decide +kernel
theorem dX4_joined_97 : decode cX4_joined 97 = .ok (.if_icmp .le 7, 3) := by decide +kernel
theorem dX4_joined_100 : decode cX4_joined 100 = .ok (.iconst 1, 1) := by decide +kernel
theorem dX4_joined_101 : decode cX4_joined 101 = .ok (.goto 4, 3) := by decide +kernel
theorem dX4_joined_104 : decode cX4_joined 104 = .ok (.iconst 0, 1) := by decide +kernel
theorem dX4_joined_105 : decode cX4_joined 105 = .ok (.ireturn, 1) := by decide +kernel
theorem dX4_joined_106 : decode cX4_joined 106 = .ok (.iload_n 1, 1) := by decide +kernel
theorem dX4_joined_107 : decode cX4_joined 107 = .ok (.iload_n 2, 1) := by decide +kernel
theorem dX4_joined_108 : decode cX4_joined 108 = .ok (.if_icmp .ne 7, 3) := by decide +kernel
theorem dX4_joined_111 : decode cX4_joined 111 = .ok (.iconst 1, 1) := by decide +kernel
theorem dX4_joined_112 : decode cX4_joined 112 = .ok (.goto 4, 3) := by decide +kernel
theorem dX4_joined_115 : decode cX4_joined 115 = .ok (.iconst 0, 1) := by decide +kernel
theorem dX4_joined_116 : decode cX4_joined 116 = .ok (.ireturn, 1) := by decide +kernel
def fX4_joined (x0 : Int32) (x1 : Int32) (x2 : Int32) : Option Int32 := if x0 = 42 then (
  some (x1 * x2))
  else (
  if x0 = 43 then (
  some (x1 + x2))
  else (
  if x0 = 45 then (
  some (x1 - x2))
  else (
  if x0 = 47 then (
  if x2 = 0 then (
  some 0)
  else (
  if ¬ x2 = 0 then (
  some (x1 / x2)) else none))
  else (
  if x0 = 60 then (
  if x2 ≤ x1 then (
  some 0)
  else (
  some 1))
  else (
  if x0 = 62 then (
  if x1 ≤ x2 then (
  some 0)
  else (
  some 1))
  else (
  if x1 = x2 then (
  some 1)
  else (
  some 0)))))))
set_option maxHeartbeats 4000000 in
theorem cX4_joined_ok {E : zE} {d : Nat} (hd : 0 ≤ d) (x0 : Int32) (x1 : Int32) (x2 : Int32) (M : zM) {K : Int32 → Prop} (h : wpO (fX4_joined x0 x1 x2) K) : CMi E d yX4_joined cX4_joined 3 (some .int) [.int x0, .int x1, .int x2] M (fun r N => M = N ∧ K r) := by
  refine CMi.of (by decide) (Nat.le_of_ble_eq_true rfl) (fun Γ hC hr => ?_)
  have hC : Cx E Γ RX4 cX4_joined 3 d := hC
  show G E Γ 3 0 [(0, .int x0), (1, .int x1), (2, .int x2)] [] M
  unfold fX4_joined at h
  refine g_iload_n (i := 0) (x := x0) hC (dX4_joined_0) rfl rfl ?_
  rcases Decidable.em (x0 = 42) with c1_42 | c1_42
  · have h := wpO_t c1_42 h
    refine g_lsw (tgt := 68) (off := 67) hC (dX4_joined_1) (by decide +kernel) (by rw [c1_42]; decide +kernel) (by decide +kernel) ?_
    refine g_iload_n (i := 1) (x := x1) hC (dX4_joined_68) rfl rfl ?_
    refine g_iload_n (i := 2) (x := x2) hC (dX4_joined_69) rfl rfl ?_
    refine g_imul hC (dX4_joined_70) ?_
    refine g_ireturn hC hr (dX4_joined_71) ?_
    exact ⟨rfl, wpO_s h⟩
  · have h := wpO_f c1_42 h
    rcases Decidable.em (x0 = 43) with c1_43 | c1_43
    · have h := wpO_t c1_43 h
      refine g_lsw (tgt := 60) (off := 59) hC (dX4_joined_1) (by decide +kernel) (by rw [c1_43]; decide +kernel) (by decide +kernel) ?_
      refine g_iload_n (i := 1) (x := x1) hC (dX4_joined_60) rfl rfl ?_
      refine g_iload_n (i := 2) (x := x2) hC (dX4_joined_61) rfl rfl ?_
      refine g_iadd hC (dX4_joined_62) ?_
      refine g_ireturn hC hr (dX4_joined_63) ?_
      exact ⟨rfl, wpO_s h⟩
    · have h := wpO_f c1_43 h
      rcases Decidable.em (x0 = 45) with c1_45 | c1_45
      · have h := wpO_t c1_45 h
        refine g_lsw (tgt := 64) (off := 63) hC (dX4_joined_1) (by decide +kernel) (by rw [c1_45]; decide +kernel) (by decide +kernel) ?_
        refine g_iload_n (i := 1) (x := x1) hC (dX4_joined_64) rfl rfl ?_
        refine g_iload_n (i := 2) (x := x2) hC (dX4_joined_65) rfl rfl ?_
        refine g_isub hC (dX4_joined_66) ?_
        refine g_ireturn hC hr (dX4_joined_67) ?_
        exact ⟨rfl, wpO_s h⟩
      · have h := wpO_f c1_45 h
        rcases Decidable.em (x0 = 47) with c1_47 | c1_47
        · have h := wpO_t c1_47 h
          refine g_lsw (tgt := 72) (off := 71) hC (dX4_joined_1) (by decide +kernel) (by rw [c1_47]; decide +kernel) (by decide +kernel) ?_
          refine g_iload_n (i := 2) (x := x2) hC (dX4_joined_72) rfl rfl ?_
          refine g_if_ne (tgt := 80) hC (dX4_joined_73) (by decide) (fun c73 => ?_) (fun c73 => ?_)
          · have h := wpO_f c73 h
            refine g_iload_n (i := 1) (x := x1) hC (dX4_joined_80) rfl rfl ?_
            refine g_iload_n (i := 2) (x := x2) hC (dX4_joined_81) rfl rfl ?_
            obtain ⟨q1, h⟩ := wpO_g h
            refine g_idiv hC (dX4_joined_82) q1 ?_
            refine g_ireturn hC hr (dX4_joined_83) ?_
            exact ⟨rfl, wpO_s h⟩
          · have h := wpO_t c73 h
            refine g_iconst (v := 0) hC (dX4_joined_76) kc_0 ?_
            refine g_goto (tgt := 83) hC (dX4_joined_77) (by decide) ?_
            refine g_ireturn hC hr (dX4_joined_83) ?_
            exact ⟨rfl, wpO_s h⟩
        · have h := wpO_f c1_47 h
          rcases Decidable.em (x0 = 60) with c1_60 | c1_60
          · have h := wpO_t c1_60 h
            refine g_lsw (tgt := 84) (off := 83) hC (dX4_joined_1) (by decide +kernel) (by rw [c1_60]; decide +kernel) (by decide +kernel) ?_
            refine g_iload_n (i := 1) (x := x1) hC (dX4_joined_84) rfl rfl ?_
            refine g_iload_n (i := 2) (x := x2) hC (dX4_joined_85) rfl rfl ?_
            refine g_icmp_ge (tgt := 93) hC (dX4_joined_86) (by decide) (fun c86 => ?_) (fun c86 => ?_)
            · have h := wpO_t c86 h
              refine g_iconst (v := 0) hC (dX4_joined_93) kc_0 ?_
              refine g_ireturn hC hr (dX4_joined_94) ?_
              exact ⟨rfl, wpO_s h⟩
            · have h := wpO_f c86 h
              refine g_iconst (v := 1) hC (dX4_joined_89) kc_1 ?_
              refine g_goto (tgt := 94) hC (dX4_joined_90) (by decide) ?_
              refine g_ireturn hC hr (dX4_joined_94) ?_
              exact ⟨rfl, wpO_s h⟩
          · have h := wpO_f c1_60 h
            rcases Decidable.em (x0 = 62) with c1_62 | c1_62
            · have h := wpO_t c1_62 h
              refine g_lsw (tgt := 95) (off := 94) hC (dX4_joined_1) (by decide +kernel) (by rw [c1_62]; decide +kernel) (by decide +kernel) ?_
              refine g_iload_n (i := 1) (x := x1) hC (dX4_joined_95) rfl rfl ?_
              refine g_iload_n (i := 2) (x := x2) hC (dX4_joined_96) rfl rfl ?_
              refine g_icmp_le (tgt := 104) hC (dX4_joined_97) (by decide) (fun c97 => ?_) (fun c97 => ?_)
              · have h := wpO_t c97 h
                refine g_iconst (v := 0) hC (dX4_joined_104) kc_0 ?_
                refine g_ireturn hC hr (dX4_joined_105) ?_
                exact ⟨rfl, wpO_s h⟩
              · have h := wpO_f c97 h
                refine g_iconst (v := 1) hC (dX4_joined_100) kc_1 ?_
                refine g_goto (tgt := 105) hC (dX4_joined_101) (by decide) ?_
                refine g_ireturn hC hr (dX4_joined_105) ?_
                exact ⟨rfl, wpO_s h⟩
            · have h := wpO_f c1_62 h
              have zc1_42 : ¬ (x0).toInt = 42 := fun z => c1_42 (Int32.toInt_inj.mp (z.trans (by decide +kernel)))
              have zc1_43 : ¬ (x0).toInt = 43 := fun z => c1_43 (Int32.toInt_inj.mp (z.trans (by decide +kernel)))
              have zc1_45 : ¬ (x0).toInt = 45 := fun z => c1_45 (Int32.toInt_inj.mp (z.trans (by decide +kernel)))
              have zc1_47 : ¬ (x0).toInt = 47 := fun z => c1_47 (Int32.toInt_inj.mp (z.trans (by decide +kernel)))
              have zc1_60 : ¬ (x0).toInt = 60 := fun z => c1_60 (Int32.toInt_inj.mp (z.trans (by decide +kernel)))
              have zc1_62 : ¬ (x0).toInt = 62 := fun z => c1_62 (Int32.toInt_inj.mp (z.trans (by decide +kernel)))
              refine g_lsw (tgt := 106) (off := 105) hC (dX4_joined_1) (by decide +kernel) (zlsw (by intro q hq; simp only [List.mem_cons, List.not_mem_nil, or_false] at hq; rcases hq with rfl | rfl | rfl | rfl | rfl | rfl <;> (first | assumption | (intro z; first | exact zc1_42 z.symm | exact zc1_43 z.symm | exact zc1_45 z.symm | exact zc1_47 z.symm | exact zc1_60 z.symm | exact zc1_62 z.symm)))) (by decide +kernel) ?_
              refine g_iload_n (i := 1) (x := x1) hC (dX4_joined_106) rfl rfl ?_
              refine g_iload_n (i := 2) (x := x2) hC (dX4_joined_107) rfl rfl ?_
              refine g_icmp_ne (tgt := 115) hC (dX4_joined_108) (by decide) (fun c108 => ?_) (fun c108 => ?_)
              · have h := wpO_f c108 h
                refine g_iconst (v := 0) hC (dX4_joined_115) kc_0 ?_
                refine g_ireturn hC hr (dX4_joined_116) ?_
                exact ⟨rfl, wpO_s h⟩
              · have h := wpO_t c108 h
                refine g_iconst (v := 1) hC (dX4_joined_111) kc_1 ?_
                refine g_goto (tgt := 116) hC (dX4_joined_112) (by decide) ?_
                refine g_ireturn hC hr (dX4_joined_116) ?_
                exact ⟨rfl, wpO_s h⟩
/-! LostByState$Rule.valueOf(IIIIII)I -/
theorem dX4_valueOf_0 : decode cX4_valueOf 0 = .ok (.aload_n 0, 1) := by decide +kernel
theorem dX4_valueOf_1 : decode cX4_valueOf 1 = .ok (.getfield 18, 3) := by decide +kernel
theorem dX4_valueOf_4 : decode cX4_valueOf 4 = .ok (.iconst 0, 1) := by decide +kernel
theorem dX4_valueOf_5 : decode cX4_valueOf 5 = .ok (.iload_n 1, 1) := by decide +kernel
theorem dX4_valueOf_6 : decode cX4_valueOf 6 = .ok (.iastore, 1) := by decide +kernel
theorem dX4_valueOf_7 : decode cX4_valueOf 7 = .ok (.aload_n 0, 1) := by decide +kernel
theorem dX4_valueOf_8 : decode cX4_valueOf 8 = .ok (.getfield 18, 3) := by decide +kernel
theorem dX4_valueOf_11 : decode cX4_valueOf 11 = .ok (.iconst 1, 1) := by decide +kernel
theorem dX4_valueOf_12 : decode cX4_valueOf 12 = .ok (.iload_n 2, 1) := by decide +kernel
theorem dX4_valueOf_13 : decode cX4_valueOf 13 = .ok (.iastore, 1) := by decide +kernel
theorem dX4_valueOf_14 : decode cX4_valueOf 14 = .ok (.aload_n 0, 1) := by decide +kernel
theorem dX4_valueOf_15 : decode cX4_valueOf 15 = .ok (.getfield 18, 3) := by decide +kernel
theorem dX4_valueOf_18 : decode cX4_valueOf 18 = .ok (.iconst 2, 1) := by decide +kernel
theorem dX4_valueOf_19 : decode cX4_valueOf 19 = .ok (.iload_n 3, 1) := by decide +kernel
theorem dX4_valueOf_20 : decode cX4_valueOf 20 = .ok (.iastore, 1) := by decide +kernel
theorem dX4_valueOf_21 : decode cX4_valueOf 21 = .ok (.aload_n 0, 1) := by decide +kernel
theorem dX4_valueOf_22 : decode cX4_valueOf 22 = .ok (.getfield 18, 3) := by decide +kernel
theorem dX4_valueOf_25 : decode cX4_valueOf 25 = .ok (.iconst 3, 1) := by decide +kernel
theorem dX4_valueOf_26 : decode cX4_valueOf 26 = .ok (.iload 4, 2) := by decide +kernel
theorem dX4_valueOf_28 : decode cX4_valueOf 28 = .ok (.iastore, 1) := by decide +kernel
theorem dX4_valueOf_29 : decode cX4_valueOf 29 = .ok (.aload_n 0, 1) := by decide +kernel
theorem dX4_valueOf_30 : decode cX4_valueOf 30 = .ok (.getfield 18, 3) := by decide +kernel
theorem dX4_valueOf_33 : decode cX4_valueOf 33 = .ok (.iconst 4, 1) := by decide +kernel
theorem dX4_valueOf_34 : decode cX4_valueOf 34 = .ok (.iload 5, 2) := by decide +kernel
theorem dX4_valueOf_36 : decode cX4_valueOf 36 = .ok (.iastore, 1) := by decide +kernel
theorem dX4_valueOf_37 : decode cX4_valueOf 37 = .ok (.aload_n 0, 1) := by decide +kernel
theorem dX4_valueOf_38 : decode cX4_valueOf 38 = .ok (.getfield 18, 3) := by decide +kernel
theorem dX4_valueOf_41 : decode cX4_valueOf 41 = .ok (.iconst 5, 1) := by decide +kernel
theorem dX4_valueOf_42 : decode cX4_valueOf 42 = .ok (.iload 6, 2) := by decide +kernel
theorem dX4_valueOf_44 : decode cX4_valueOf 44 = .ok (.iastore, 1) := by decide +kernel
theorem dX4_valueOf_45 : decode cX4_valueOf 45 = .ok (.iconst 0, 1) := by decide +kernel
theorem dX4_valueOf_46 : decode cX4_valueOf 46 = .ok (.istore 7, 2) := by decide +kernel
theorem dX4_valueOf_48 : decode cX4_valueOf 48 = .ok (.iconst 0, 1) := by decide +kernel
theorem dX4_valueOf_49 : decode cX4_valueOf 49 = .ok (.istore 8, 2) := by decide +kernel
theorem dX4_valueOf_51 : decode cX4_valueOf 51 = .ok (.iload 8, 2) := by decide +kernel
theorem dX4_valueOf_53 : decode cX4_valueOf 53 = .ok (.aload_n 0, 1) := by decide +kernel
theorem dX4_valueOf_54 : decode cX4_valueOf 54 = .ok (.getfield 21, 3) := by decide +kernel
theorem dX4_valueOf_57 : decode cX4_valueOf 57 = .ok (.if_icmp .ge 150, 3) := by decide +kernel
theorem dX4_valueOf_60 : decode cX4_valueOf 60 = .ok (.aload_n 0, 1) := by decide +kernel
theorem dX4_valueOf_61 : decode cX4_valueOf 61 = .ok (.getfield 9, 3) := by decide +kernel
theorem dX4_valueOf_64 : decode cX4_valueOf 64 = .ok (.iload 8, 2) := by decide +kernel
theorem dX4_valueOf_66 : decode cX4_valueOf 66 = .ok (.iaload, 1) := by decide +kernel
theorem dX4_valueOf_67 : decode cX4_valueOf 67 = .ok (.istore 9, 2) := by decide +kernel
theorem dX4_valueOf_69 : decode cX4_valueOf 69 = .ok (.iload 9, 2) := by decide +kernel
theorem dX4_valueOf_71 : decode cX4_valueOf 71 = .ok (.sipush 2000, 3) := by decide +kernel
theorem dX4_valueOf_74 : decode cX4_valueOf 74 = .ok (.if_icmp .ge 49, 3) := by decide +kernel
theorem dX4_valueOf_77 : decode cX4_valueOf 77 = .ok (.iload 7, 2) := by decide +kernel
theorem dX4_valueOf_79 : decode cX4_valueOf 79 = .ok (.aload_n 0, 1) := by decide +kernel
theorem dX4_valueOf_80 : decode cX4_valueOf 80 = .ok (.getfield 15, 3) := by decide +kernel
theorem dX4_valueOf_83 : decode cX4_valueOf 83 = .ok (.arraylength, 1) := by decide +kernel
theorem dX4_valueOf_84 : decode cX4_valueOf 84 = .ok (.if_icmp .ge 39, 3) := by decide +kernel
theorem dX4_valueOf_87 : decode cX4_valueOf 87 = .ok (.aload_n 0, 1) := by decide +kernel
theorem dX4_valueOf_88 : decode cX4_valueOf 88 = .ok (.getfield 15, 3) := by decide +kernel
theorem dX4_valueOf_91 : decode cX4_valueOf 91 = .ok (.iload 7, 2) := by decide +kernel
theorem dX4_valueOf_93 : decode cX4_valueOf 93 = .ok (.iload 9, 2) := by decide +kernel
theorem dX4_valueOf_95 : decode cX4_valueOf 95 = .ok (.sipush 1000, 3) := by decide +kernel
theorem dX4_valueOf_98 : decode cX4_valueOf 98 = .ok (.if_icmp .ge 8, 3) := by decide +kernel
theorem dX4_valueOf_101 : decode cX4_valueOf 101 = .ok (.iload 9, 2) := by decide +kernel
theorem dX4_valueOf_103 : decode cX4_valueOf 103 = .ok (.goto 13, 3) := by decide +kernel
theorem dX4_valueOf_106 : decode cX4_valueOf 106 = .ok (.aload_n 0, 1) := by decide +kernel
theorem dX4_valueOf_107 : decode cX4_valueOf 107 = .ok (.iload 9, 2) := by decide +kernel
theorem dX4_valueOf_109 : decode cX4_valueOf 109 = .ok (.sipush 1000, 3) := by decide +kernel
theorem dX4_valueOf_112 : decode cX4_valueOf 112 = .ok (.isub, 1) := by decide +kernel
theorem dX4_valueOf_113 : decode cX4_valueOf 113 = .ok (.invokevirtual 37, 3) := by decide +kernel
theorem dX4_valueOf_116 : decode cX4_valueOf 116 = .ok (.iastore, 1) := by decide +kernel
theorem dX4_valueOf_117 : decode cX4_valueOf 117 = .ok (.iinc 7 1, 3) := by decide +kernel
theorem dX4_valueOf_120 : decode cX4_valueOf 120 = .ok (.goto 81, 3) := by decide +kernel
theorem dX4_valueOf_123 : decode cX4_valueOf 123 = .ok (.iload 9, 2) := by decide +kernel
theorem dX4_valueOf_125 : decode cX4_valueOf 125 = .ok (.sipush 3000, 3) := by decide +kernel
theorem dX4_valueOf_128 : decode cX4_valueOf 128 = .ok (.if_icmp .ne 30, 3) := by decide +kernel
theorem dX4_valueOf_131 : decode cX4_valueOf 131 = .ok (.iload 7, 2) := by decide +kernel
theorem dX4_valueOf_133 : decode cX4_valueOf 133 = .ok (.ifCond .le 25, 3) := by decide +kernel
theorem dX4_valueOf_136 : decode cX4_valueOf 136 = .ok (.aload_n 0, 1) := by decide +kernel
theorem dX4_valueOf_137 : decode cX4_valueOf 137 = .ok (.getfield 15, 3) := by decide +kernel
theorem dX4_valueOf_140 : decode cX4_valueOf 140 = .ok (.iload 7, 2) := by decide +kernel
theorem dX4_valueOf_142 : decode cX4_valueOf 142 = .ok (.iconst 1, 1) := by decide +kernel
theorem dX4_valueOf_143 : decode cX4_valueOf 143 = .ok (.isub, 1) := by decide +kernel
theorem dX4_valueOf_144 : decode cX4_valueOf 144 = .ok (.aload_n 0, 1) := by decide +kernel
theorem dX4_valueOf_145 : decode cX4_valueOf 145 = .ok (.getfield 15, 3) := by decide +kernel
theorem dX4_valueOf_148 : decode cX4_valueOf 148 = .ok (.iload 7, 2) := by decide +kernel
theorem dX4_valueOf_150 : decode cX4_valueOf 150 = .ok (.iconst 1, 1) := by decide +kernel
theorem dX4_valueOf_151 : decode cX4_valueOf 151 = .ok (.isub, 1) := by decide +kernel
theorem dX4_valueOf_152 : decode cX4_valueOf 152 = .ok (.iaload, 1) := by decide +kernel
theorem dX4_valueOf_153 : decode cX4_valueOf 153 = .ok (.ineg, 1) := by decide +kernel
theorem dX4_valueOf_154 : decode cX4_valueOf 154 = .ok (.iastore, 1) := by decide +kernel
theorem dX4_valueOf_155 : decode cX4_valueOf 155 = .ok (.goto 46, 3) := by decide +kernel
theorem dX4_valueOf_158 : decode cX4_valueOf 158 = .ok (.iload 7, 2) := by decide +kernel
theorem dX4_valueOf_160 : decode cX4_valueOf 160 = .ok (.iconst 1, 1) := by decide +kernel
theorem dX4_valueOf_161 : decode cX4_valueOf 161 = .ok (.if_icmp .le 40, 3) := by decide +kernel
theorem dX4_valueOf_164 : decode cX4_valueOf 164 = .ok (.iinc 7 (-1), 3) := by decide +kernel
theorem dX4_valueOf_167 : decode cX4_valueOf 167 = .ok (.aload_n 0, 1) := by decide +kernel
theorem dX4_valueOf_168 : decode cX4_valueOf 168 = .ok (.getfield 15, 3) := by decide +kernel
theorem dX4_valueOf_171 : decode cX4_valueOf 171 = .ok (.iload 7, 2) := by decide +kernel
theorem dX4_valueOf_173 : decode cX4_valueOf 173 = .ok (.iconst 1, 1) := by decide +kernel
theorem dX4_valueOf_174 : decode cX4_valueOf 174 = .ok (.isub, 1) := by decide +kernel
theorem dX4_valueOf_175 : decode cX4_valueOf 175 = .ok (.iload 9, 2) := by decide +kernel
theorem dX4_valueOf_177 : decode cX4_valueOf 177 = .ok (.sipush 2000, 3) := by decide +kernel
theorem dX4_valueOf_180 : decode cX4_valueOf 180 = .ok (.isub, 1) := by decide +kernel
theorem dX4_valueOf_181 : decode cX4_valueOf 181 = .ok (.aload_n 0, 1) := by decide +kernel
theorem dX4_valueOf_182 : decode cX4_valueOf 182 = .ok (.getfield 15, 3) := by decide +kernel
theorem dX4_valueOf_185 : decode cX4_valueOf 185 = .ok (.iload 7, 2) := by decide +kernel
theorem dX4_valueOf_187 : decode cX4_valueOf 187 = .ok (.iconst 1, 1) := by decide +kernel
theorem dX4_valueOf_188 : decode cX4_valueOf 188 = .ok (.isub, 1) := by decide +kernel
theorem dX4_valueOf_189 : decode cX4_valueOf 189 = .ok (.iaload, 1) := by decide +kernel
theorem dX4_valueOf_190 : decode cX4_valueOf 190 = .ok (.aload_n 0, 1) := by decide +kernel
theorem dX4_valueOf_191 : decode cX4_valueOf 191 = .ok (.getfield 15, 3) := by decide +kernel
theorem dX4_valueOf_194 : decode cX4_valueOf 194 = .ok (.iload 7, 2) := by decide +kernel
theorem dX4_valueOf_196 : decode cX4_valueOf 196 = .ok (.iaload, 1) := by decide +kernel
theorem dX4_valueOf_197 : decode cX4_valueOf 197 = .ok (.invokestatic 41, 3) := by decide +kernel
theorem dX4_valueOf_200 : decode cX4_valueOf 200 = .ok (.iastore, 1) := by decide +kernel
theorem dX4_valueOf_201 : decode cX4_valueOf 201 = .ok (.iinc 8 1, 3) := by decide +kernel
theorem dX4_valueOf_204 : decode cX4_valueOf 204 = .ok (.goto (-153), 3) := by decide +kernel
theorem dX4_valueOf_207 : decode cX4_valueOf 207 = .ok (.iload 7, 2) := by decide +kernel
theorem dX4_valueOf_209 : decode cX4_valueOf 209 = .ok (.ifCond .le 12, 3) := by decide +kernel
theorem dX4_valueOf_212 : decode cX4_valueOf 212 = .ok (.aload_n 0, 1) := by decide +kernel
theorem dX4_valueOf_213 : decode cX4_valueOf 213 = .ok (.getfield 15, 3) := by decide +kernel
theorem dX4_valueOf_216 : decode cX4_valueOf 216 = .ok (.iconst 0, 1) := by decide +kernel
theorem dX4_valueOf_217 : decode cX4_valueOf 217 = .ok (.iaload, 1) := by decide +kernel
theorem dX4_valueOf_218 : decode cX4_valueOf 218 = .ok (.goto 4, 3) := by decide +kernel
theorem dX4_valueOf_221 : decode cX4_valueOf 221 = .ok (.iconst 0, 1) := by decide +kernel
theorem dX4_valueOf_222 : decode cX4_valueOf 222 = .ok (.ireturn, 1) := by decide +kernel
def fX4_valueOf_L51 (x0 : Nat) : Nat → Int32 → Int32 → zM → Option (Int32 × zM)
  | 0, _, _, _ => none
  | n + 1, x7, x8, M => if zSH x0 = .inl 4 then (
    if (M.1 x0 3) ≤ x8 then (
    some (x7, M))
    else (
    if zin x8 40 then (
    zlet (M.1 (x0 + 1) x8.toNatClampNeg) fun (x9_67 : Int32) =>
    (if 2000 ≤ x9_67 then (
    zj (fun (_ : Unit) =>
    if x7 ≤ 1 then (
    some (x7, M))
    else (
    if zin ((x7 + (-1)) - 1) 40 then (
    if zin (x7 + (-1)) 40 then (
    (fX4_joined (x9_67 - 2000) (M.1 (x0 + 2) ((x7 + (-1)) - 1).toNatClampNeg) (M.1 (x0 + 2) (x7 + (-1)).toNatClampNeg)).bind fun (r9 : Int32) =>
    zlet (zSI M (x0 + 2) ((x7 + (-1)) - 1).toNatClampNeg r9) fun (M200 : zM) =>
    some (x7 + (-1), M200)) else none) else none))
    fun J5 =>
    if x9_67 = 3000 then (
    if x7 ≤ 0 then (
    J5 ())
    else (
    if zin (x7 - 1) 40 then (
    zlet (zSI M (x0 + 2) (x7 - 1).toNatClampNeg (-(M.1 (x0 + 2) (x7 - 1).toNatClampNeg))) fun (M154 : zM) =>
    some (x7, M154)) else none))
    else (
    J5 ()))
    else (
    if 40 ≤ x7 then (
    zj (fun (_ : Unit) =>
    if x7 ≤ 1 then (
    some (x7, M))
    else (
    if zin ((x7 + (-1)) - 1) 40 then (
    if zin (x7 + (-1)) 40 then (
    (fX4_joined (x9_67 - 2000) (M.1 (x0 + 2) ((x7 + (-1)) - 1).toNatClampNeg) (M.1 (x0 + 2) (x7 + (-1)).toNatClampNeg)).bind fun (r14 : Int32) =>
    zlet (zSI M (x0 + 2) ((x7 + (-1)) - 1).toNatClampNeg r14) fun (M200 : zM) =>
    some (x7 + (-1), M200)) else none) else none))
    fun J10 =>
    if x9_67 = 3000 then (
    if x7 ≤ 0 then (
    J10 ())
    else (
    if zin (x7 - 1) 40 then (
    zlet (zSI M (x0 + 2) (x7 - 1).toNatClampNeg (-(M.1 (x0 + 2) (x7 - 1).toNatClampNeg))) fun (M154 : zM) =>
    some (x7, M154)) else none))
    else (
    J10 ()))
    else (
    (if 1000 ≤ x9_67 then (
    (fX4_namedValue x0 (x9_67 - 1000) M).bind fun (r16 : Int32) =>
    some r16)
    else (
    some x9_67) : Option Int32).bind fun (s0_116 : Int32) =>
    if zin x7 40 then (
    zlet (zSI M (x0 + 2) x7.toNatClampNeg s0_116) fun (M116 : zM) =>
    some (x7 + 1, M116)) else none)) : Option (Int32 × zM)).bind fun (q : Int32 × zM) => zp q fun x7_201 M_201 =>
    fX4_valueOf_L51 x0 n x7_201 (x8 + 1) M_201) else none)) else none
def fX4_valueOf (x0 : Nat) (x1 : Int32) (x2 : Int32) (x3 : Int32) (x4 : Int32) (x5 : Int32) (x6 : Int32) (M : zM) : Option (Int32 × zM) := if zSH x0 = .inl 4 then (
  zlet (zSI M (x0 + 3) 0 x1) fun (M6 : zM) =>
  zlet (zSI M6 (x0 + 3) 1 x2) fun (M13 : zM) =>
  zlet (zSI M13 (x0 + 3) 2 x3) fun (M20 : zM) =>
  zlet (zSI M20 (x0 + 3) 3 x4) fun (M28 : zM) =>
  zlet (zSI M28 (x0 + 3) 4 x5) fun (M36 : zM) =>
  zlet (zSI M36 (x0 + 3) 5 x6) fun (M44 : zM) =>
  (fX4_valueOf_L51 x0 4000 0 0 M44).bind fun (q : Int32 × zM) => zp q fun x7_207 M_207 =>
  if x7_207 ≤ 0 then (
  some (0, M_207))
  else (
  some (M_207.1 (x0 + 2) 0, M_207))) else none
set_option maxHeartbeats 4000000 in
theorem lX4_valueOf_51 {E : zE} {Γ : zT} {d : Nat} {K1 : (Int32 × zM) → Prop} (hC : Cx E Γ RX4 cX4_valueOf 10 d) (hd : 1 ≤ d) (x0 : Nat) (hx : ∀ (x7_207 : Int32) (M_207 : zM), K1 (x7_207, M_207) → G E Γ 10 207 [(0, .ref x0), (7, .int x7_207)] [] M_207) :
    ∀ (n : Nat) (x7 : Int32) (x8 : Int32) (M : zM), wpO (fX4_valueOf_L51 x0 n x7 x8 M) K1 → G E Γ 10 51 [(0, .ref x0), (7, .int x7), (8, .int x8)] [] M := by
  intro n
  induction n with
  | zero =>
    intro x7 x8 M h
    exact (wpO_0 h).elim
  | succ n ih =>
    intro x7 x8 M h
    rw [fX4_valueOf_L51.eq_2] at h
    refine g_iload (i := 8) (x := x8) hC (dX4_valueOf_51) rfl ?_
    refine g_aload_n (i := 0) (x := x0) hC (dX4_valueOf_53) rfl rfl ?_
    obtain ⟨q2, h⟩ := wpO_g h
    refine g_getI hC flX4_21 (dX4_valueOf_54) q2 rfl ?_
    refine g_icmp_ge (tgt := 207) hC (dX4_valueOf_57) (by decide) (fun c57 => ?_) (fun c57 => ?_)
    · have h := wpO_t c57 h
      refine g_sub (lv' := [(0, .ref x0), (7, .int x7)]) [0, 1] rfl ?_
      exact hx _ _ (wpO_s h)
    · have h := wpO_f c57 h
      refine g_aload_n (i := 0) (x := x0) hC (dX4_valueOf_60) rfl rfl ?_
      refine g_getR (r := x0 + 1) hC flX4_9 (dX4_valueOf_61) q2 rfl (zRFr1 q2) ?_
      refine g_iload (i := 8) (x := x8) hC (dX4_valueOf_64) rfl ?_
      obtain ⟨q3, h⟩ := wpO_g h
      refine g_iaload (n := 40) hC (dX4_valueOf_66) (zSHr1 q2) q3 ?_
      refine g_nmi (fun x9_67 e_x9_67 => ?_)
      have h := wpO_n e_x9_67 h
      refine g_istore (i := 9) (lv2 := [(9, .int x9_67), (0, .ref x0), (7, .int x7), (8, .int x8)]) hC (dX4_valueOf_67) (by decide) rfl ?_
      refine g_iload (i := 9) (x := x9_67) hC (dX4_valueOf_69) rfl ?_
      refine g_sipush (v := 2000) hC (dX4_valueOf_71) ks_2000 ?_
      refine wpO_bJ h (fun KJ4 hKJ4 h => ?_)
      have hJ4 : ∀ (x7_201 : Int32) (M_201 : zM), KJ4 (x7_201, M_201) → G E Γ 10 201 [(0, .ref x0), (7, .int x7_201), (8, .int x8)] [] M_201 := by
        intro x7_201 M_201 h
        have h := hKJ4 _ h
        have h := wpO_p h
        refine g_iinc (x := x8) (v := (x8 + 1)) (lv2 := [(8, .int (x8 + 1)), (0, .ref x0), (7, .int x7_201)]) hC (dX4_valueOf_201) rfl rfl (by decide) rfl ?_
        refine g_goto (tgt := 51) hC (dX4_valueOf_204) (by decide) ?_
        refine g_sub (lv' := [(0, .ref x0), (7, .int x7_201), (8, .int (x8 + 1))]) [1, 2, 0] rfl ?_
        exact ih _ _ _ h
      refine g_icmp_ge (tgt := 123) hC (dX4_valueOf_74) (by decide) (fun c74 => ?_) (fun c74 => ?_)
      · have h := wpO_t c74 h
        refine g_iload (i := 9) (x := x9_67) hC (dX4_valueOf_123) rfl ?_
        refine g_sipush (v := 3000) hC (dX4_valueOf_125) ks_3000 ?_
        refine wpO_j h (fun J5 hkJ5 h => ?_)
        have hJ5 : ∀ (_ : Unit), wpO (J5 ()) KJ4 → G E Γ 10 158 [(0, .ref x0), (7, .int x7), (8, .int x8), (9, .int x9_67)] [] M := by
          intro _ h
          have h := hkJ5 _ h
          refine g_iload (i := 7) (x := x7) hC (dX4_valueOf_158) rfl ?_
          refine g_iconst (v := 1) hC (dX4_valueOf_160) kc_1 ?_
          refine g_icmp_le (tgt := 201) hC (dX4_valueOf_161) (by decide) (fun c161 => ?_) (fun c161 => ?_)
          · have h := wpO_t c161 h
            refine g_sub (lv' := [(0, .ref x0), (7, .int x7), (8, .int x8)]) [0, 1, 2] rfl ?_
            exact hJ4 _ _ (wpO_s h)
          · have h := wpO_f c161 h
            refine g_iinc (x := x7) (v := (x7 + (-1))) (lv2 := [(7, .int (x7 + (-1))), (0, .ref x0), (8, .int x8), (9, .int x9_67)]) hC (dX4_valueOf_164) rfl rfl (by decide) rfl ?_
            refine g_aload_n (i := 0) (x := x0) hC (dX4_valueOf_167) rfl rfl ?_
            refine g_getR (r := x0 + 2) hC flX4_15 (dX4_valueOf_168) q2 rfl (zRFr2 q2) ?_
            refine g_iload (i := 7) (x := (x7 + (-1))) hC (dX4_valueOf_171) rfl ?_
            refine g_iconst (v := 1) hC (dX4_valueOf_173) kc_1 ?_
            refine g_isub hC (dX4_valueOf_174) ?_
            refine g_iload (i := 9) (x := x9_67) hC (dX4_valueOf_175) rfl ?_
            refine g_sipush (v := 2000) hC (dX4_valueOf_177) ks_2000 ?_
            refine g_isub hC (dX4_valueOf_180) ?_
            refine g_aload_n (i := 0) (x := x0) hC (dX4_valueOf_181) rfl rfl ?_
            refine g_getR (r := x0 + 2) hC flX4_15 (dX4_valueOf_182) q2 rfl (zRFr2 q2) ?_
            refine g_iload (i := 7) (x := (x7 + (-1))) hC (dX4_valueOf_185) rfl ?_
            refine g_iconst (v := 1) hC (dX4_valueOf_187) kc_1 ?_
            refine g_isub hC (dX4_valueOf_188) ?_
            obtain ⟨q7, h⟩ := wpO_g h
            refine g_iaload (n := 40) hC (dX4_valueOf_189) (zSHr2 q2) q7 ?_
            refine g_aload_n (i := 0) (x := x0) hC (dX4_valueOf_190) rfl rfl ?_
            refine g_getR (r := x0 + 2) hC flX4_15 (dX4_valueOf_191) q2 rfl (zRFr2 q2) ?_
            refine g_iload (i := 7) (x := (x7 + (-1))) hC (dX4_valueOf_194) rfl ?_
            obtain ⟨q8, h⟩ := wpO_g h
            refine g_iaload (n := 40) hC (dX4_valueOf_196) (zSHr2 q2) q8 ?_
            have h := wpO_b h
            refine g_callSi ([.int (x9_67 - 2000), .int (M.1 (x0 + 2) ((x7 + (-1)) - 1).toNatClampNeg), .int (M.1 (x0 + 2) (x7 + (-1)).toNatClampNeg)]) hC wsX4_41 (dX4_valueOf_197) rfl (by omega) (Nat.le_of_ble_eq_true rfl) (cX4_joined_ok (by omega) (x9_67 - 2000) (M.1 (x0 + 2) ((x7 + (-1)) - 1).toNatClampNeg) (M.1 (x0 + 2) (x7 + (-1)).toNatClampNeg) M h) (fun r9 N q => ?_)
            obtain ⟨rfl, h⟩ := q
            refine g_iastore (n := 40) hC (dX4_valueOf_200) (zSHr2 q2) q7 ?_
            refine g_nmM (fun M200 e_M200 => ?_)
            have h := wpO_n e_M200 h
            refine g_sub (lv' := [(0, .ref x0), (7, .int (x7 + (-1))), (8, .int x8)]) [1, 0, 2] rfl ?_
            exact hJ4 _ _ (wpO_s h)
        refine g_icmp_ne (tgt := 158) hC (dX4_valueOf_128) (by decide) (fun c128 => ?_) (fun c128 => ?_)
        · have h := wpO_f c128 h
          refine g_sub (lv' := [(0, .ref x0), (7, .int x7), (8, .int x8), (9, .int x9_67)]) [1, 2, 3, 0] rfl ?_
          exact hJ5 () h
        · have h := wpO_t c128 h
          refine g_iload (i := 7) (x := x7) hC (dX4_valueOf_131) rfl ?_
          refine g_if_le (tgt := 158) hC (dX4_valueOf_133) (by decide) (fun c133 => ?_) (fun c133 => ?_)
          · have h := wpO_t c133 h
            refine g_sub (lv' := [(0, .ref x0), (7, .int x7), (8, .int x8), (9, .int x9_67)]) [1, 2, 3, 0] rfl ?_
            exact hJ5 () h
          · have h := wpO_f c133 h
            refine g_aload_n (i := 0) (x := x0) hC (dX4_valueOf_136) rfl rfl ?_
            refine g_getR (r := x0 + 2) hC flX4_15 (dX4_valueOf_137) q2 rfl (zRFr2 q2) ?_
            refine g_iload (i := 7) (x := x7) hC (dX4_valueOf_140) rfl ?_
            refine g_iconst (v := 1) hC (dX4_valueOf_142) kc_1 ?_
            refine g_isub hC (dX4_valueOf_143) ?_
            refine g_aload_n (i := 0) (x := x0) hC (dX4_valueOf_144) rfl rfl ?_
            refine g_getR (r := x0 + 2) hC flX4_15 (dX4_valueOf_145) q2 rfl (zRFr2 q2) ?_
            refine g_iload (i := 7) (x := x7) hC (dX4_valueOf_148) rfl ?_
            refine g_iconst (v := 1) hC (dX4_valueOf_150) kc_1 ?_
            refine g_isub hC (dX4_valueOf_151) ?_
            obtain ⟨q6, h⟩ := wpO_g h
            refine g_iaload (n := 40) hC (dX4_valueOf_152) (zSHr2 q2) q6 ?_
            refine g_ineg hC (dX4_valueOf_153) ?_
            refine g_iastore (n := 40) hC (dX4_valueOf_154) (zSHr2 q2) q6 ?_
            refine g_nmM (fun M154 e_M154 => ?_)
            have h := wpO_n e_M154 h
            refine g_goto (tgt := 201) hC (dX4_valueOf_155) (by decide) ?_
            refine g_sub (lv' := [(0, .ref x0), (7, .int x7), (8, .int x8)]) [1, 2, 3] rfl ?_
            exact hJ4 _ _ (wpO_s h)
      · have h := wpO_f c74 h
        refine g_iload (i := 7) (x := x7) hC (dX4_valueOf_77) rfl ?_
        refine g_aload_n (i := 0) (x := x0) hC (dX4_valueOf_79) rfl rfl ?_
        refine g_getR (r := x0 + 2) hC flX4_15 (dX4_valueOf_80) q2 rfl (zRFr2 q2) ?_
        refine g_alen (ek := 0) (n := 40) (v := 40) hC (dX4_valueOf_83) (zSHr2 q2) (by decide) rfl ?_
        refine g_icmp_ge (tgt := 123) hC (dX4_valueOf_84) (by decide) (fun c84 => ?_) (fun c84 => ?_)
        · have h := wpO_t c84 h
          refine g_iload (i := 9) (x := x9_67) hC (dX4_valueOf_123) rfl ?_
          refine g_sipush (v := 3000) hC (dX4_valueOf_125) ks_3000 ?_
          refine wpO_j h (fun J10 hkJ10 h => ?_)
          have hJ10 : ∀ (_ : Unit), wpO (J10 ()) KJ4 → G E Γ 10 158 [(0, .ref x0), (7, .int x7), (8, .int x8), (9, .int x9_67)] [] M := by
            intro _ h
            have h := hkJ10 _ h
            refine g_iload (i := 7) (x := x7) hC (dX4_valueOf_158) rfl ?_
            refine g_iconst (v := 1) hC (dX4_valueOf_160) kc_1 ?_
            refine g_icmp_le (tgt := 201) hC (dX4_valueOf_161) (by decide) (fun c161 => ?_) (fun c161 => ?_)
            · have h := wpO_t c161 h
              refine g_sub (lv' := [(0, .ref x0), (7, .int x7), (8, .int x8)]) [0, 1, 2] rfl ?_
              exact hJ4 _ _ (wpO_s h)
            · have h := wpO_f c161 h
              refine g_iinc (x := x7) (v := (x7 + (-1))) (lv2 := [(7, .int (x7 + (-1))), (0, .ref x0), (8, .int x8), (9, .int x9_67)]) hC (dX4_valueOf_164) rfl rfl (by decide) rfl ?_
              refine g_aload_n (i := 0) (x := x0) hC (dX4_valueOf_167) rfl rfl ?_
              refine g_getR (r := x0 + 2) hC flX4_15 (dX4_valueOf_168) q2 rfl (zRFr2 q2) ?_
              refine g_iload (i := 7) (x := (x7 + (-1))) hC (dX4_valueOf_171) rfl ?_
              refine g_iconst (v := 1) hC (dX4_valueOf_173) kc_1 ?_
              refine g_isub hC (dX4_valueOf_174) ?_
              refine g_iload (i := 9) (x := x9_67) hC (dX4_valueOf_175) rfl ?_
              refine g_sipush (v := 2000) hC (dX4_valueOf_177) ks_2000 ?_
              refine g_isub hC (dX4_valueOf_180) ?_
              refine g_aload_n (i := 0) (x := x0) hC (dX4_valueOf_181) rfl rfl ?_
              refine g_getR (r := x0 + 2) hC flX4_15 (dX4_valueOf_182) q2 rfl (zRFr2 q2) ?_
              refine g_iload (i := 7) (x := (x7 + (-1))) hC (dX4_valueOf_185) rfl ?_
              refine g_iconst (v := 1) hC (dX4_valueOf_187) kc_1 ?_
              refine g_isub hC (dX4_valueOf_188) ?_
              obtain ⟨q12, h⟩ := wpO_g h
              refine g_iaload (n := 40) hC (dX4_valueOf_189) (zSHr2 q2) q12 ?_
              refine g_aload_n (i := 0) (x := x0) hC (dX4_valueOf_190) rfl rfl ?_
              refine g_getR (r := x0 + 2) hC flX4_15 (dX4_valueOf_191) q2 rfl (zRFr2 q2) ?_
              refine g_iload (i := 7) (x := (x7 + (-1))) hC (dX4_valueOf_194) rfl ?_
              obtain ⟨q13, h⟩ := wpO_g h
              refine g_iaload (n := 40) hC (dX4_valueOf_196) (zSHr2 q2) q13 ?_
              have h := wpO_b h
              refine g_callSi ([.int (x9_67 - 2000), .int (M.1 (x0 + 2) ((x7 + (-1)) - 1).toNatClampNeg), .int (M.1 (x0 + 2) (x7 + (-1)).toNatClampNeg)]) hC wsX4_41 (dX4_valueOf_197) rfl (by omega) (Nat.le_of_ble_eq_true rfl) (cX4_joined_ok (by omega) (x9_67 - 2000) (M.1 (x0 + 2) ((x7 + (-1)) - 1).toNatClampNeg) (M.1 (x0 + 2) (x7 + (-1)).toNatClampNeg) M h) (fun r14 N q => ?_)
              obtain ⟨rfl, h⟩ := q
              refine g_iastore (n := 40) hC (dX4_valueOf_200) (zSHr2 q2) q12 ?_
              refine g_nmM (fun M200 e_M200 => ?_)
              have h := wpO_n e_M200 h
              refine g_sub (lv' := [(0, .ref x0), (7, .int (x7 + (-1))), (8, .int x8)]) [1, 0, 2] rfl ?_
              exact hJ4 _ _ (wpO_s h)
          refine g_icmp_ne (tgt := 158) hC (dX4_valueOf_128) (by decide) (fun c128 => ?_) (fun c128 => ?_)
          · have h := wpO_f c128 h
            refine g_sub (lv' := [(0, .ref x0), (7, .int x7), (8, .int x8), (9, .int x9_67)]) [1, 2, 3, 0] rfl ?_
            exact hJ10 () h
          · have h := wpO_t c128 h
            refine g_iload (i := 7) (x := x7) hC (dX4_valueOf_131) rfl ?_
            refine g_if_le (tgt := 158) hC (dX4_valueOf_133) (by decide) (fun c133 => ?_) (fun c133 => ?_)
            · have h := wpO_t c133 h
              refine g_sub (lv' := [(0, .ref x0), (7, .int x7), (8, .int x8), (9, .int x9_67)]) [1, 2, 3, 0] rfl ?_
              exact hJ10 () h
            · have h := wpO_f c133 h
              refine g_aload_n (i := 0) (x := x0) hC (dX4_valueOf_136) rfl rfl ?_
              refine g_getR (r := x0 + 2) hC flX4_15 (dX4_valueOf_137) q2 rfl (zRFr2 q2) ?_
              refine g_iload (i := 7) (x := x7) hC (dX4_valueOf_140) rfl ?_
              refine g_iconst (v := 1) hC (dX4_valueOf_142) kc_1 ?_
              refine g_isub hC (dX4_valueOf_143) ?_
              refine g_aload_n (i := 0) (x := x0) hC (dX4_valueOf_144) rfl rfl ?_
              refine g_getR (r := x0 + 2) hC flX4_15 (dX4_valueOf_145) q2 rfl (zRFr2 q2) ?_
              refine g_iload (i := 7) (x := x7) hC (dX4_valueOf_148) rfl ?_
              refine g_iconst (v := 1) hC (dX4_valueOf_150) kc_1 ?_
              refine g_isub hC (dX4_valueOf_151) ?_
              obtain ⟨q11, h⟩ := wpO_g h
              refine g_iaload (n := 40) hC (dX4_valueOf_152) (zSHr2 q2) q11 ?_
              refine g_ineg hC (dX4_valueOf_153) ?_
              refine g_iastore (n := 40) hC (dX4_valueOf_154) (zSHr2 q2) q11 ?_
              refine g_nmM (fun M154 e_M154 => ?_)
              have h := wpO_n e_M154 h
              refine g_goto (tgt := 201) hC (dX4_valueOf_155) (by decide) ?_
              refine g_sub (lv' := [(0, .ref x0), (7, .int x7), (8, .int x8)]) [1, 2, 3] rfl ?_
              exact hJ4 _ _ (wpO_s h)
        · have h := wpO_f c84 h
          refine g_aload_n (i := 0) (x := x0) hC (dX4_valueOf_87) rfl rfl ?_
          refine g_getR (r := x0 + 2) hC flX4_15 (dX4_valueOf_88) q2 rfl (zRFr2 q2) ?_
          refine g_iload (i := 7) (x := x7) hC (dX4_valueOf_91) rfl ?_
          refine g_iload (i := 9) (x := x9_67) hC (dX4_valueOf_93) rfl ?_
          refine g_sipush (v := 1000) hC (dX4_valueOf_95) ks_1000 ?_
          refine wpO_bJ h (fun KJ15 hKJ15 h => ?_)
          have hJ15 : ∀ (s0_116 : Int32), KJ15 s0_116 → G E Γ 10 116 [(0, .ref x0), (7, .int x7), (8, .int x8)] [.int s0_116, .int x7, .ref (x0 + 2)] M := by
            intro s0_116 h
            have h := hKJ15 _ h
            obtain ⟨q17, h⟩ := wpO_g h
            refine g_iastore (n := 40) hC (dX4_valueOf_116) (zSHr2 q2) q17 ?_
            refine g_nmM (fun M116 e_M116 => ?_)
            have h := wpO_n e_M116 h
            refine g_iinc (x := x7) (v := (x7 + 1)) (lv2 := [(7, .int (x7 + 1)), (0, .ref x0), (8, .int x8)]) hC (dX4_valueOf_117) rfl rfl (by decide) rfl ?_
            refine g_goto (tgt := 201) hC (dX4_valueOf_120) (by decide) ?_
            refine g_sub (lv' := [(0, .ref x0), (7, .int (x7 + 1)), (8, .int x8)]) [1, 0, 2] rfl ?_
            exact hJ4 _ _ (wpO_s h)
          refine g_icmp_ge (tgt := 106) hC (dX4_valueOf_98) (by decide) (fun c98 => ?_) (fun c98 => ?_)
          · have h := wpO_t c98 h
            refine g_aload_n (i := 0) (x := x0) hC (dX4_valueOf_106) rfl rfl ?_
            refine g_iload (i := 9) (x := x9_67) hC (dX4_valueOf_107) rfl ?_
            refine g_sipush (v := 1000) hC (dX4_valueOf_109) ks_1000 ?_
            refine g_isub hC (dX4_valueOf_112) ?_
            have h := wpO_b h
            refine g_callVi ([.int (x9_67 - 1000)]) hC wvX4_37 (dX4_valueOf_113) q2 rfl (by omega) (Nat.le_of_ble_eq_true rfl) (cX4_namedValue_ok (by omega) x0 (x9_67 - 1000) M h) (fun r16 N q => ?_)
            obtain ⟨rfl, h⟩ := q
            refine g_sub (lv' := [(0, .ref x0), (7, .int x7), (8, .int x8)]) [1, 2, 3] rfl ?_
            exact hJ15 _ (wpO_s h)
          · have h := wpO_f c98 h
            refine g_iload (i := 9) (x := x9_67) hC (dX4_valueOf_101) rfl ?_
            refine g_goto (tgt := 116) hC (dX4_valueOf_103) (by decide) ?_
            refine g_sub (lv' := [(0, .ref x0), (7, .int x7), (8, .int x8)]) [1, 2, 3] rfl ?_
            exact hJ15 _ (wpO_s h)
set_option maxHeartbeats 4000000 in
theorem cX4_valueOf_ok {E : zE} {d : Nat} (hd : 1 ≤ d) (x0 : Nat) (x1 : Int32) (x2 : Int32) (x3 : Int32) (x4 : Int32) (x5 : Int32) (x6 : Int32) (M : zM) {K : (Int32 × zM) → Prop} (h : wpO (fX4_valueOf x0 x1 x2 x3 x4 x5 x6 M) K) : CMi E d yX4_valueOf cX4_valueOf 10 (some .int) [.ref x0, .int x1, .int x2, .int x3, .int x4, .int x5, .int x6] M (fun r N => K (r, N)) := by
  refine CMi.of (by decide) (Nat.le_of_ble_eq_true rfl) (fun Γ hC hr => ?_)
  have hC : Cx E Γ RX4 cX4_valueOf 10 d := hC
  show G E Γ 10 0 [(0, .ref x0), (1, .int x1), (2, .int x2), (3, .int x3), (4, .int x4), (5, .int x5), (6, .int x6)] [] M
  unfold fX4_valueOf at h
  refine g_aload_n (i := 0) (x := x0) hC (dX4_valueOf_0) rfl rfl ?_
  obtain ⟨q1, h⟩ := wpO_g h
  refine g_getR (r := x0 + 3) hC flX4_18 (dX4_valueOf_1) q1 rfl (zRFr3 q1) ?_
  refine g_iconst (v := 0) hC (dX4_valueOf_4) kc_0 ?_
  refine g_iload_n (i := 1) (x := x1) hC (dX4_valueOf_5) rfl rfl ?_
  refine g_iastore (n := 6) hC (dX4_valueOf_6) (zSHr3 q1) (by decide) ?_
  refine g_nmM (fun M6 e_M6 => ?_)
  have h := wpO_n e_M6 h
  refine g_aload_n (i := 0) (x := x0) hC (dX4_valueOf_7) rfl rfl ?_
  refine g_getR (r := x0 + 3) hC flX4_18 (dX4_valueOf_8) q1 rfl (zRFr3 q1) ?_
  refine g_iconst (v := 1) hC (dX4_valueOf_11) kc_1 ?_
  refine g_iload_n (i := 2) (x := x2) hC (dX4_valueOf_12) rfl rfl ?_
  refine g_iastore (n := 6) hC (dX4_valueOf_13) (zSHr3 q1) (by decide) ?_
  refine g_nmM (fun M13 e_M13 => ?_)
  have h := wpO_n e_M13 h
  refine g_aload_n (i := 0) (x := x0) hC (dX4_valueOf_14) rfl rfl ?_
  refine g_getR (r := x0 + 3) hC flX4_18 (dX4_valueOf_15) q1 rfl (zRFr3 q1) ?_
  refine g_iconst (v := 2) hC (dX4_valueOf_18) kc_2 ?_
  refine g_iload_n (i := 3) (x := x3) hC (dX4_valueOf_19) rfl rfl ?_
  refine g_iastore (n := 6) hC (dX4_valueOf_20) (zSHr3 q1) (by decide) ?_
  refine g_nmM (fun M20 e_M20 => ?_)
  have h := wpO_n e_M20 h
  refine g_aload_n (i := 0) (x := x0) hC (dX4_valueOf_21) rfl rfl ?_
  refine g_getR (r := x0 + 3) hC flX4_18 (dX4_valueOf_22) q1 rfl (zRFr3 q1) ?_
  refine g_iconst (v := 3) hC (dX4_valueOf_25) kc_3 ?_
  refine g_iload (i := 4) (x := x4) hC (dX4_valueOf_26) rfl ?_
  refine g_iastore (n := 6) hC (dX4_valueOf_28) (zSHr3 q1) (by decide) ?_
  refine g_nmM (fun M28 e_M28 => ?_)
  have h := wpO_n e_M28 h
  refine g_aload_n (i := 0) (x := x0) hC (dX4_valueOf_29) rfl rfl ?_
  refine g_getR (r := x0 + 3) hC flX4_18 (dX4_valueOf_30) q1 rfl (zRFr3 q1) ?_
  refine g_iconst (v := 4) hC (dX4_valueOf_33) kc_4 ?_
  refine g_iload (i := 5) (x := x5) hC (dX4_valueOf_34) rfl ?_
  refine g_iastore (n := 6) hC (dX4_valueOf_36) (zSHr3 q1) (by decide) ?_
  refine g_nmM (fun M36 e_M36 => ?_)
  have h := wpO_n e_M36 h
  refine g_aload_n (i := 0) (x := x0) hC (dX4_valueOf_37) rfl rfl ?_
  refine g_getR (r := x0 + 3) hC flX4_18 (dX4_valueOf_38) q1 rfl (zRFr3 q1) ?_
  refine g_iconst (v := 5) hC (dX4_valueOf_41) kc_5 ?_
  refine g_iload (i := 6) (x := x6) hC (dX4_valueOf_42) rfl ?_
  refine g_iastore (n := 6) hC (dX4_valueOf_44) (zSHr3 q1) (by decide) ?_
  refine g_nmM (fun M44 e_M44 => ?_)
  have h := wpO_n e_M44 h
  refine g_iconst (v := 0) hC (dX4_valueOf_45) kc_0 ?_
  refine g_istore (i := 7) (lv2 := [(7, .int 0), (0, .ref x0), (1, .int x1), (2, .int x2), (3, .int x3), (4, .int x4), (5, .int x5), (6, .int x6)]) hC (dX4_valueOf_46) (by decide) rfl ?_
  refine g_iconst (v := 0) hC (dX4_valueOf_48) kc_0 ?_
  refine g_istore (i := 8) (lv2 := [(8, .int 0), (7, .int 0), (0, .ref x0), (1, .int x1), (2, .int x2), (3, .int x3), (4, .int x4), (5, .int x5), (6, .int x6)]) hC (dX4_valueOf_49) (by decide) rfl ?_
  refine g_sub (lv' := [(0, .ref x0), (7, .int 0), (8, .int 0)]) [2, 1, 0] rfl ?_
  refine wpO_bJ h (fun KL51 hKL51 h => ?_)
  refine lX4_valueOf_51 (K1 := KL51) hC (by omega) x0 (fun x7_207 M_207 h => ?_) _ _ _ _ h
  have h := hKL51 _ h
  have h := wpO_p h
  refine g_iload (i := 7) (x := x7_207) hC (dX4_valueOf_207) rfl ?_
  refine g_if_le (tgt := 221) hC (dX4_valueOf_209) (by decide) (fun c209 => ?_) (fun c209 => ?_)
  · have h := wpO_t c209 h
    refine g_iconst (v := 0) hC (dX4_valueOf_221) kc_0 ?_
    refine g_ireturn hC hr (dX4_valueOf_222) ?_
    exact wpO_s h
  · have h := wpO_f c209 h
    refine g_aload_n (i := 0) (x := x0) hC (dX4_valueOf_212) rfl rfl ?_
    refine g_getR (r := x0 + 2) hC flX4_15 (dX4_valueOf_213) q1 rfl (zRFr2 q1) ?_
    refine g_iconst (v := 0) hC (dX4_valueOf_216) kc_0 ?_
    refine g_iaload (n := 40) hC (dX4_valueOf_217) (zSHr2 q1) (by decide) ?_
    refine g_goto (tgt := 222) hC (dX4_valueOf_218) (by decide) ?_
    refine g_ireturn hC hr (dX4_valueOf_222) ?_
    exact wpO_s h
/-! LostByState$RuleReader.seen()I -/
theorem dX5_seen_0 : decode cX5_seen 0 = .ok (.aload_n 0, 1) := by decide +kernel
theorem dX5_seen_1 : decode cX5_seen 1 = .ok (.getfield 15, 3) := by decide +kernel
theorem dX5_seen_4 : decode cX5_seen 4 = .ok (.aload_n 0, 1) := by decide +kernel
theorem dX5_seen_5 : decode cX5_seen 5 = .ok (.getfield 9, 3) := by decide +kernel
theorem dX5_seen_8 : decode cX5_seen 8 = .ok (.if_icmp .ge 17, 3) := by decide +kernel
theorem dX5_seen_11 : decode cX5_seen 11 = .ok (.aload_n 0, 1) := by decide +kernel
theorem dX5_seen_12 : decode cX5_seen 12 = .ok (.getfield 18, 3) := by decide +kernel
theorem dX5_seen_15 : decode cX5_seen 15 = .ok (.aload_n 0, 1) := by decide +kernel
theorem dX5_seen_16 : decode cX5_seen 16 = .ok (.getfield 15, 3) := by decide +kernel
theorem dX5_seen_19 : decode cX5_seen 19 = .ok (.invokevirtual 46, 3) := by decide +kernel
theorem dX5_seen_22 : decode cX5_seen 22 = .ok (.goto 4, 3) := by decide +kernel
theorem dX5_seen_25 : decode cX5_seen 25 = .ok (.iconst (-1), 1) := by decide +kernel
theorem dX5_seen_26 : decode cX5_seen 26 = .ok (.ireturn, 1) := by decide +kernel
def fX5_seen  (M : zM) : Option Int32 := if (M.1 21 2) ≤ (M.1 21 3) then (
  some (-1))
  else (
  (fX9_signAt (M.1 21 3) M).bind fun (r1 : Int32) =>
  some r1)
set_option maxHeartbeats 4000000 in
theorem cX5_seen_ok {E : zE} {d : Nat} (hd : 1 ≤ d)  (M : zM) {K : Int32 → Prop} (h : wpO (fX5_seen  M) K) : CMi E d yX5_seen cX5_seen 1 (some .int) [.ref 21] M (fun r N => M = N ∧ K r) := by
  refine CMi.of (by decide) (Nat.le_of_ble_eq_true rfl) (fun Γ hC hr => ?_)
  have hC : Cx E Γ RX5 cX5_seen 1 d := hC
  show G E Γ 1 0 [(0, .ref 21)] [] M
  unfold fX5_seen at h
  refine g_aload_n (i := 0) (x := 21) hC (dX5_seen_0) rfl rfl ?_
  refine g_getI hC flX5_15 (dX5_seen_1) rfl rfl ?_
  refine g_aload_n (i := 0) (x := 21) hC (dX5_seen_4) rfl rfl ?_
  refine g_getI hC flX5_9 (dX5_seen_5) rfl rfl ?_
  refine g_icmp_ge (tgt := 25) hC (dX5_seen_8) (by decide) (fun c8 => ?_) (fun c8 => ?_)
  · have h := wpO_t c8 h
    refine g_iconst (v := (-1)) hC (dX5_seen_25) kc_m1 ?_
    refine g_ireturn hC hr (dX5_seen_26) ?_
    exact ⟨rfl, wpO_s h⟩
  · have h := wpO_f c8 h
    refine g_aload_n (i := 0) (x := 21) hC (dX5_seen_11) rfl rfl ?_
    refine g_getR (r := 1) hC flX5_18 (dX5_seen_12) rfl rfl rfl ?_
    refine g_aload_n (i := 0) (x := 21) hC (dX5_seen_15) rfl rfl ?_
    refine g_getI hC flX5_15 (dX5_seen_16) rfl rfl ?_
    have h := wpO_b h
    refine g_callVi ([.int (M.1 21 3)]) hC wvX5_46 (dX5_seen_19) rfl rfl (by omega) (Nat.le_of_ble_eq_true rfl) (cX9_signAt_ok (by omega) (M.1 21 3) M h) (fun r1 N q => ?_)
    obtain ⟨rfl, h⟩ := q
    refine g_goto (tgt := 26) hC (dX5_seen_22) (by decide) ?_
    refine g_ireturn hC hr (dX5_seen_26) ?_
    exact ⟨rfl, wpO_s h⟩
/-! LostByState$RuleReader.readNumber()Z -/
theorem dX5_readNumber_0 : decode cX5_readNumber 0 = .ok (.iconst 0, 1) := by decide +kernel
theorem dX5_readNumber_1 : decode cX5_readNumber 1 = .ok (.istore_n 1, 1) := by decide +kernel
theorem dX5_readNumber_2 : decode cX5_readNumber 2 = .ok (.iconst 0, 1) := by decide +kernel
theorem dX5_readNumber_3 : decode cX5_readNumber 3 = .ok (.istore_n 2, 1) := by decide +kernel
theorem dX5_readNumber_4 : decode cX5_readNumber 4 = .ok (.iload_n 2, 1) := by decide +kernel
theorem dX5_readNumber_5 : decode cX5_readNumber 5 = .ok (.iconst 3, 1) := by decide +kernel
theorem dX5_readNumber_6 : decode cX5_readNumber 6 = .ok (.if_icmp .ge 50, 3) := by decide +kernel
theorem dX5_readNumber_9 : decode cX5_readNumber 9 = .ok (.aload_n 0, 1) := by decide +kernel
theorem dX5_readNumber_10 : decode cX5_readNumber 10 = .ok (.invokevirtual 53, 3) := by decide +kernel
theorem dX5_readNumber_13 : decode cX5_readNumber 13 = .ok (.bipush 48, 2) := by decide +kernel
theorem dX5_readNumber_15 : decode cX5_readNumber 15 = .ok (.if_icmp .lt 41, 3) := by decide +kernel
theorem dX5_readNumber_18 : decode cX5_readNumber 18 = .ok (.aload_n 0, 1) := by decide +kernel
theorem dX5_readNumber_19 : decode cX5_readNumber 19 = .ok (.invokevirtual 53, 3) := by decide +kernel
theorem dX5_readNumber_22 : decode cX5_readNumber 22 = .ok (.bipush 57, 2) := by decide +kernel
theorem dX5_readNumber_24 : decode cX5_readNumber 24 = .ok (.if_icmp .gt 32, 3) := by decide +kernel
theorem dX5_readNumber_27 : decode cX5_readNumber 27 = .ok (.iload_n 1, 1) := by decide +kernel
theorem dX5_readNumber_28 : decode cX5_readNumber 28 = .ok (.bipush 10, 2) := by decide +kernel
theorem dX5_readNumber_30 : decode cX5_readNumber 30 = .ok (.imul, 1) := by decide +kernel
theorem dX5_readNumber_31 : decode cX5_readNumber 31 = .ok (.aload_n 0, 1) := by decide +kernel
theorem dX5_readNumber_32 : decode cX5_readNumber 32 = .ok (.invokevirtual 53, 3) := by decide +kernel
theorem dX5_readNumber_35 : decode cX5_readNumber 35 = .ok (.iadd, 1) := by decide +kernel
theorem dX5_readNumber_36 : decode cX5_readNumber 36 = .ok (.bipush 48, 2) := by decide +kernel
theorem dX5_readNumber_38 : decode cX5_readNumber 38 = .ok (.isub, 1) := by decide +kernel
theorem dX5_readNumber_39 : decode cX5_readNumber 39 = .ok (.istore_n 1, 1) := by decide +kernel
theorem dX5_readNumber_40 : decode cX5_readNumber 40 = .ok (.aload_n 0, 1) := by decide +kernel
theorem dX5_readNumber_41 : decode cX5_readNumber 41 = .ok (.dup, 1) := by decide +kernel
theorem dX5_readNumber_42 : decode cX5_readNumber 42 = .ok (.getfield 15, 3) := by decide +kernel
theorem dX5_readNumber_45 : decode cX5_readNumber 45 = .ok (.iconst 1, 1) := by decide +kernel
theorem dX5_readNumber_46 : decode cX5_readNumber 46 = .ok (.iadd, 1) := by decide +kernel
theorem dX5_readNumber_47 : decode cX5_readNumber 47 = .ok (.putfield 15, 3) := by decide +kernel
theorem dX5_readNumber_50 : decode cX5_readNumber 50 = .ok (.iinc 2 1, 3) := by decide +kernel
theorem dX5_readNumber_53 : decode cX5_readNumber 53 = .ok (.goto (-49), 3) := by decide +kernel
theorem dX5_readNumber_56 : decode cX5_readNumber 56 = .ok (.iload_n 2, 1) := by decide +kernel
theorem dX5_readNumber_57 : decode cX5_readNumber 57 = .ok (.ifCond .ne 5, 3) := by decide +kernel
theorem dX5_readNumber_60 : decode cX5_readNumber 60 = .ok (.iconst 0, 1) := by decide +kernel
theorem dX5_readNumber_61 : decode cX5_readNumber 61 = .ok (.ireturn, 1) := by decide +kernel
theorem dX5_readNumber_62 : decode cX5_readNumber 62 = .ok (.aload_n 0, 1) := by decide +kernel
theorem dX5_readNumber_63 : decode cX5_readNumber 63 = .ok (.getfield 22, 3) := by decide +kernel
theorem dX5_readNumber_66 : decode cX5_readNumber 66 = .ok (.iload_n 1, 1) := by decide +kernel
theorem dX5_readNumber_67 : decode cX5_readNumber 67 = .ok (.invokevirtual 57, 3) := by decide +kernel
theorem dX5_readNumber_70 : decode cX5_readNumber 70 = .ok (.iconst 1, 1) := by decide +kernel
theorem dX5_readNumber_71 : decode cX5_readNumber 71 = .ok (.ireturn, 1) := by decide +kernel
def fX5_readNumber_L4 : Nat → Int32 → Int32 → zM → Option (Int32 × Int32 × zM)
  | 0, _, _, _ => none
  | n + 1, x1, x2, M => if 3 ≤ x2 then (
    some (x1, x2, M))
    else (
    (fX5_seen M).bind fun (r1 : Int32) =>
    if r1 < 48 then (
    some (x1, x2, M))
    else (
    (fX5_seen M).bind fun (r2 : Int32) =>
    if 57 < r2 then (
    some (x1, x2, M))
    else (
    (fX5_seen M).bind fun (r3 : Int32) =>
    zlet (((x1 * 10) + r3) - 48) fun (x1_39 : Int32) =>
    zlet (zSI M 21 3 ((M.1 21 3) + 1)) fun (M47 : zM) =>
    fX5_readNumber_L4 n x1_39 (x2 + 1) M47)))
def fX5_readNumber  (M : zM) : Option (Int32 × zM) := (fX5_readNumber_L4 4000 0 0 M).bind fun (q : Int32 × Int32 × zM) => zp q fun x1_56 q => zp q fun x2_56 M_56 =>
  if x2_56 = 0 then (
  some (0, M_56))
  else (
  (fX4_add 17 x1_56 M_56).bind fun (M67 : zM) =>
  some (1, M67))
set_option maxHeartbeats 4000000 in
theorem lX5_readNumber_4 {E : zE} {Γ : zT} {d : Nat} {K1 : (Int32 × Int32 × zM) → Prop} (hC : Cx E Γ RX5 cX5_readNumber 3 d) (hd : 2 ≤ d) (hx : ∀ (x1_56 : Int32) (x2_56 : Int32) (M_56 : zM), K1 (x1_56, x2_56, M_56) → G E Γ 3 56 [(0, .ref 21), (1, .int x1_56), (2, .int x2_56)] [] M_56) :
    ∀ (n : Nat) (x1 : Int32) (x2 : Int32) (M : zM), wpO (fX5_readNumber_L4 n x1 x2 M) K1 → G E Γ 3 4 [(0, .ref 21), (1, .int x1), (2, .int x2)] [] M := by
  intro n
  induction n with
  | zero =>
    intro x1 x2 M h
    exact (wpO_0 h).elim
  | succ n ih =>
    intro x1 x2 M h
    rw [fX5_readNumber_L4.eq_2] at h
    refine g_iload_n (i := 2) (x := x2) hC (dX5_readNumber_4) rfl rfl ?_
    refine g_iconst (v := 3) hC (dX5_readNumber_5) kc_3 ?_
    refine g_icmp_ge (tgt := 56) hC (dX5_readNumber_6) (by decide) (fun c6 => ?_) (fun c6 => ?_)
    · have h := wpO_t c6 h
      exact hx _ _ _ (wpO_s h)
    · have h := wpO_f c6 h
      refine g_aload_n (i := 0) (x := 21) hC (dX5_readNumber_9) rfl rfl ?_
      have h := wpO_b h
      refine g_callVi ([]) hC wvX5_53 (dX5_readNumber_10) rfl rfl (by omega) (Nat.le_of_ble_eq_true rfl) (cX5_seen_ok (by omega) M h) (fun r1 N q => ?_)
      obtain ⟨rfl, h⟩ := q
      refine g_bipush (v := 48) hC (dX5_readNumber_13) kb_48 ?_
      refine g_icmp_lt (tgt := 56) hC (dX5_readNumber_15) (by decide) (fun c15 => ?_) (fun c15 => ?_)
      · have h := wpO_t c15 h
        exact hx _ _ _ (wpO_s h)
      · have h := wpO_f c15 h
        refine g_aload_n (i := 0) (x := 21) hC (dX5_readNumber_18) rfl rfl ?_
        have h := wpO_b h
        refine g_callVi ([]) hC wvX5_53 (dX5_readNumber_19) rfl rfl (by omega) (Nat.le_of_ble_eq_true rfl) (cX5_seen_ok (by omega) M h) (fun r2 N q => ?_)
        obtain ⟨rfl, h⟩ := q
        refine g_bipush (v := 57) hC (dX5_readNumber_22) kb_57 ?_
        refine g_icmp_gt (tgt := 56) hC (dX5_readNumber_24) (by decide) (fun c24 => ?_) (fun c24 => ?_)
        · have h := wpO_t c24 h
          exact hx _ _ _ (wpO_s h)
        · have h := wpO_f c24 h
          refine g_iload_n (i := 1) (x := x1) hC (dX5_readNumber_27) rfl rfl ?_
          refine g_bipush (v := 10) hC (dX5_readNumber_28) kb_10 ?_
          refine g_imul hC (dX5_readNumber_30) ?_
          refine g_aload_n (i := 0) (x := 21) hC (dX5_readNumber_31) rfl rfl ?_
          have h := wpO_b h
          refine g_callVi ([]) hC wvX5_53 (dX5_readNumber_32) rfl rfl (by omega) (Nat.le_of_ble_eq_true rfl) (cX5_seen_ok (by omega) M h) (fun r3 N q => ?_)
          obtain ⟨rfl, h⟩ := q
          refine g_iadd hC (dX5_readNumber_35) ?_
          refine g_bipush (v := 48) hC (dX5_readNumber_36) kb_48 ?_
          refine g_isub hC (dX5_readNumber_38) ?_
          refine g_nmi (fun x1_39 e_x1_39 => ?_)
          have h := wpO_n e_x1_39 h
          refine g_istore_n (i := 1) (lv2 := [(1, .int x1_39), (0, .ref 21), (2, .int x2)]) hC (dX5_readNumber_39) rfl (by decide) rfl ?_
          refine g_aload_n (i := 0) (x := 21) hC (dX5_readNumber_40) rfl rfl ?_
          refine g_dup hC (dX5_readNumber_41) rfl ?_
          refine g_getI hC flX5_15 (dX5_readNumber_42) rfl rfl ?_
          refine g_iconst (v := 1) hC (dX5_readNumber_45) kc_1 ?_
          refine g_iadd hC (dX5_readNumber_46) ?_
          refine g_putI hC fpX5_15 (dX5_readNumber_47) rfl rfl rfl rfl ?_
          refine g_nmM (fun M47 e_M47 => ?_)
          have h := wpO_n e_M47 h
          refine g_iinc (x := x2) (v := (x2 + 1)) (lv2 := [(2, .int (x2 + 1)), (1, .int x1_39), (0, .ref 21)]) hC (dX5_readNumber_50) rfl rfl (by decide) rfl ?_
          refine g_goto (tgt := 4) hC (dX5_readNumber_53) (by decide) ?_
          refine g_sub (lv' := [(0, .ref 21), (1, .int x1_39), (2, .int (x2 + 1))]) [2, 1, 0] rfl ?_
          exact ih _ _ _ h
set_option maxHeartbeats 4000000 in
theorem cX5_readNumber_ok {E : zE} {d : Nat} (hd : 2 ≤ d)  (M : zM) {K : (Int32 × zM) → Prop} (h : wpO (fX5_readNumber  M) K) : CMi E d yX5_readNumber cX5_readNumber 3 (some .boolean) [.ref 21] M (fun r N => K (r, N)) := by
  refine CMi.of (by decide) (Nat.le_of_ble_eq_true rfl) (fun Γ hC hr => ?_)
  have hC : Cx E Γ RX5 cX5_readNumber 3 d := hC
  show G E Γ 3 0 [(0, .ref 21)] [] M
  unfold fX5_readNumber at h
  refine g_iconst (v := 0) hC (dX5_readNumber_0) kc_0 ?_
  refine g_istore_n (i := 1) (lv2 := [(1, .int 0), (0, .ref 21)]) hC (dX5_readNumber_1) rfl (by decide) rfl ?_
  refine g_iconst (v := 0) hC (dX5_readNumber_2) kc_0 ?_
  refine g_istore_n (i := 2) (lv2 := [(2, .int 0), (1, .int 0), (0, .ref 21)]) hC (dX5_readNumber_3) rfl (by decide) rfl ?_
  refine g_sub (lv' := [(0, .ref 21), (1, .int 0), (2, .int 0)]) [2, 1, 0] rfl ?_
  refine wpO_bJ h (fun KL4 hKL4 h => ?_)
  refine lX5_readNumber_4 (K1 := KL4) hC (by omega)  (fun x1_56 x2_56 M_56 h => ?_) _ _ _ _ h
  have h := hKL4 _ h
  have h := wpO_p h
  have h := wpO_p h
  refine g_iload_n (i := 2) (x := x2_56) hC (dX5_readNumber_56) rfl rfl ?_
  refine g_if_ne (tgt := 62) hC (dX5_readNumber_57) (by decide) (fun c57 => ?_) (fun c57 => ?_)
  · have h := wpO_f c57 h
    refine g_aload_n (i := 0) (x := 21) hC (dX5_readNumber_62) rfl rfl ?_
    refine g_getR (r := 17) hC flX5_22 (dX5_readNumber_63) rfl rfl rfl ?_
    refine g_iload_n (i := 1) (x := x1_56) hC (dX5_readNumber_66) rfl rfl ?_
    have h := wpO_b h
    refine g_callVv ([.int x1_56]) hC wvX5_57 (dX5_readNumber_67) rfl rfl (by omega) (Nat.le_of_ble_eq_true rfl) (cX4_add_ok (by omega) 17 x1_56 M_56 h) (fun M67 h => ?_)
    refine g_iconst (v := 1) hC (dX5_readNumber_70) kc_1 ?_
    refine g_zreturn hC hr (dX5_readNumber_71) (Or.inr rfl) ?_
    exact wpO_s h
  · have h := wpO_t c57 h
    refine g_iconst (v := 0) hC (dX5_readNumber_60) kc_0 ?_
    refine g_zreturn hC hr (dX5_readNumber_61) (Or.inl rfl) ?_
    exact wpO_s h
/-! java/lang/String.isLatin1()Z -/
theorem dJ0_isLatin1_aae02_0 : decode cJ0_isLatin1_aae02 0 = .ok (.getstatic 38, 3) := by decide +kernel
theorem dJ0_isLatin1_aae02_3 : decode cJ0_isLatin1_aae02 3 = .ok (.ifCond .eq 14, 3) := by decide +kernel
theorem dJ0_isLatin1_aae02_6 : decode cJ0_isLatin1_aae02 6 = .ok (.aload_n 0, 1) := by decide +kernel
theorem dJ0_isLatin1_aae02_7 : decode cJ0_isLatin1_aae02 7 = .ok (.getfield 15, 3) := by decide +kernel
theorem dJ0_isLatin1_aae02_10 : decode cJ0_isLatin1_aae02 10 = .ok (.ifCond .ne 7, 3) := by decide +kernel
theorem dJ0_isLatin1_aae02_13 : decode cJ0_isLatin1_aae02 13 = .ok (.iconst 1, 1) := by decide +kernel
theorem dJ0_isLatin1_aae02_14 : decode cJ0_isLatin1_aae02 14 = .ok (.goto 4, 3) := by decide +kernel
theorem dJ0_isLatin1_aae02_17 : decode cJ0_isLatin1_aae02 17 = .ok (.iconst 0, 1) := by decide +kernel
theorem dJ0_isLatin1_aae02_18 : decode cJ0_isLatin1_aae02 18 = .ok (.ireturn, 1) := by decide +kernel
def fJ0_isLatin1_aae02  : Int32 := 1
theorem bJ0_isLatin1_aae02  : fJ0_isLatin1_aae02  = 0 ∨ fJ0_isLatin1_aae02  = 1 := by
  unfold fJ0_isLatin1_aae02
  try simp only [zlet, zp, zj]
  repeat' split
  all_goals first | exact Or.inl rfl | exact Or.inr rfl | (simp; done)
set_option maxHeartbeats 4000000 in
theorem cJ0_isLatin1_aae02_ok {E : zE} {d : Nat} (hd : 0 ≤ d)  (M : zM) {K : Int32 → Prop} (h : wpI (fJ0_isLatin1_aae02 ) K) : CMi E d yJ0_isLatin1_aae02 cJ0_isLatin1_aae02 1 (some .boolean) [.ref 146] M (fun r N => M = N ∧ K r) := by
  refine CMi.of (by decide) (Nat.le_of_ble_eq_true rfl) (fun Γ hC hr => ?_)
  have hC : Cx E Γ RJ0 cJ0_isLatin1_aae02 1 d := hC
  show G E Γ 1 0 [(0, .ref 146)] [] M
  unfold fJ0_isLatin1_aae02 at h
  refine g_getsC hC m_458 (dJ0_isLatin1_aae02_0) ?_
  refine g_if_eq (tgt := 17) hC (dJ0_isLatin1_aae02_3) (by decide) (fun c3 => ?_) (fun c3 => ?_)
  · exact absurd c3 (by decide)
  · skip
    refine g_aload_n (i := 0) (x := 146) hC (dJ0_isLatin1_aae02_6) rfl rfl ?_
    refine g_getCo hC m_1677 (dJ0_isLatin1_aae02_7) ?_
    refine g_if_ne (tgt := 17) hC (dJ0_isLatin1_aae02_10) (by decide) (fun c10 => ?_) (fun c10 => ?_)
    · exact absurd (by decide) c10
    · skip
      refine g_iconst (v := 1) hC (dJ0_isLatin1_aae02_13) kc_1 ?_
      refine g_goto (tgt := 18) hC (dJ0_isLatin1_aae02_14) (by decide) ?_
      refine g_zreturn hC hr (dJ0_isLatin1_aae02_18) (Or.inr rfl) ?_
      exact ⟨rfl, wpI_s h⟩
/-! java/lang/String.coder()B -/
theorem dJ0_coder_7d493_0 : decode cJ0_coder_7d493 0 = .ok (.getstatic 38, 3) := by decide +kernel
theorem dJ0_coder_7d493_3 : decode cJ0_coder_7d493 3 = .ok (.ifCond .eq 10, 3) := by decide +kernel
theorem dJ0_coder_7d493_6 : decode cJ0_coder_7d493 6 = .ok (.aload_n 0, 1) := by decide +kernel
theorem dJ0_coder_7d493_7 : decode cJ0_coder_7d493 7 = .ok (.getfield 15, 3) := by decide +kernel
theorem dJ0_coder_7d493_10 : decode cJ0_coder_7d493 10 = .ok (.goto 4, 3) := by decide +kernel
theorem dJ0_coder_7d493_13 : decode cJ0_coder_7d493 13 = .ok (.iconst 1, 1) := by decide +kernel
theorem dJ0_coder_7d493_14 : decode cJ0_coder_7d493 14 = .ok (.ireturn, 1) := by decide +kernel
def fJ0_coder_7d493  : Int32 := 0
theorem bJ0_coder_7d493  : fJ0_coder_7d493  = 0 ∨ fJ0_coder_7d493  = 1 := by
  unfold fJ0_coder_7d493
  try simp only [zlet, zp, zj]
  repeat' split
  all_goals first | exact Or.inl rfl | exact Or.inr rfl | (simp; done)
set_option maxHeartbeats 4000000 in
theorem cJ0_coder_7d493_ok {E : zE} {d : Nat} (hd : 0 ≤ d)  (M : zM) {K : Int32 → Prop} (h : wpI (fJ0_coder_7d493 ) K) : CMi E d yJ0_coder_7d493 cJ0_coder_7d493 1 (some .byte) [.ref 146] M (fun r N => M = N ∧ K r) := by
  refine CMi.of (by decide) (Nat.le_of_ble_eq_true rfl) (fun Γ hC hr => ?_)
  have hC : Cx E Γ RJ0 cJ0_coder_7d493 1 d := hC
  show G E Γ 1 0 [(0, .ref 146)] [] M
  unfold fJ0_coder_7d493 at h
  refine g_getsC hC m_458 (dJ0_coder_7d493_0) ?_
  refine g_if_eq (tgt := 13) hC (dJ0_coder_7d493_3) (by decide) (fun c3 => ?_) (fun c3 => ?_)
  · exact absurd c3 (by decide)
  · skip
    refine g_aload_n (i := 0) (x := 146) hC (dJ0_coder_7d493_6) rfl rfl ?_
    refine g_getCo hC m_1677 (dJ0_coder_7d493_7) ?_
    refine g_goto (tgt := 14) hC (dJ0_coder_7d493_10) (by decide) ?_
    refine g_breturn hC hr (dJ0_coder_7d493_14) (Or.inl rfl) ?_
    exact ⟨rfl, wpI_s h⟩
/-! java/lang/String.length()I -/
theorem dJ0_length_8abf5_0 : decode cJ0_length_8abf5 0 = .ok (.aload_n 0, 1) := by decide +kernel
theorem dJ0_length_8abf5_1 : decode cJ0_length_8abf5 1 = .ok (.getfield 9, 3) := by decide +kernel
theorem dJ0_length_8abf5_4 : decode cJ0_length_8abf5 4 = .ok (.arraylength, 1) := by decide +kernel
theorem dJ0_length_8abf5_5 : decode cJ0_length_8abf5 5 = .ok (.aload_n 0, 1) := by decide +kernel
theorem dJ0_length_8abf5_6 : decode cJ0_length_8abf5 6 = .ok (.invokevirtual 335, 3) := by decide +kernel
theorem dJ0_length_8abf5_9 : decode cJ0_length_8abf5 9 = .ok (.ishr, 1) := by decide +kernel
theorem dJ0_length_8abf5_10 : decode cJ0_length_8abf5 10 = .ok (.ireturn, 1) := by decide +kernel
def fJ0_length_8abf5  : Int32 := (zshr 6 fJ0_coder_7d493)
set_option maxHeartbeats 4000000 in
theorem cJ0_length_8abf5_ok {E : zE} {d : Nat} (hd : 1 ≤ d)  (M : zM) {K : Int32 → Prop} (h : wpI (fJ0_length_8abf5 ) K) : CMi E d yJ0_length_8abf5 cJ0_length_8abf5 1 (some .int) [.ref 146] M (fun r N => M = N ∧ K r) := by
  refine CMi.of (by decide) (Nat.le_of_ble_eq_true rfl) (fun Γ hC hr => ?_)
  have hC : Cx E Γ RJ0 cJ0_length_8abf5 1 d := hC
  show G E Γ 1 0 [(0, .ref 146)] [] M
  unfold fJ0_length_8abf5 at h
  refine g_aload_n (i := 0) (x := 146) hC (dJ0_length_8abf5_0) rfl rfl ?_
  refine g_getV hC m_1678 (dJ0_length_8abf5_1) ?_
  refine g_alenB hC (dJ0_length_8abf5_4) ?_
  refine g_aload_n (i := 0) (x := 146) hC (dJ0_length_8abf5_5) rfl rfl ?_
  refine g_callTi ([]) hC wtJ0_335 (dJ0_length_8abf5_6)  rfl (by omega) (Nat.le_of_ble_eq_true rfl) (cJ0_coder_7d493_ok (by omega) M (K := fun r => r = fJ0_coder_7d493) rfl) (fun r N q => ?_)
  obtain ⟨rfl, rfl⟩ := q
  refine g_ishr hC (dJ0_length_8abf5_9) ?_
  refine g_ireturn hC hr (dJ0_length_8abf5_10) ?_
  exact ⟨rfl, wpI_s h⟩
/-! java/lang/StringLatin1.canEncode(I)Z -/
theorem dJ1_canEncode_9a6ad_0 : decode cJ1_canEncode_9a6ad 0 = .ok (.iload_n 0, 1) := by decide +kernel
theorem dJ1_canEncode_9a6ad_1 : decode cJ1_canEncode_9a6ad 1 = .ok (.ifCond .lt 14, 3) := by decide +kernel
theorem dJ1_canEncode_9a6ad_4 : decode cJ1_canEncode_9a6ad 4 = .ok (.iload_n 0, 1) := by decide +kernel
theorem dJ1_canEncode_9a6ad_5 : decode cJ1_canEncode_9a6ad 5 = .ok (.sipush 255, 3) := by decide +kernel
theorem dJ1_canEncode_9a6ad_8 : decode cJ1_canEncode_9a6ad 8 = .ok (.if_icmp .gt 7, 3) := by decide +kernel
theorem dJ1_canEncode_9a6ad_11 : decode cJ1_canEncode_9a6ad 11 = .ok (.iconst 1, 1) := by decide +kernel
theorem dJ1_canEncode_9a6ad_12 : decode cJ1_canEncode_9a6ad 12 = .ok (.goto 4, 3) := by decide +kernel
theorem dJ1_canEncode_9a6ad_15 : decode cJ1_canEncode_9a6ad 15 = .ok (.iconst 0, 1) := by decide +kernel
theorem dJ1_canEncode_9a6ad_16 : decode cJ1_canEncode_9a6ad 16 = .ok (.ireturn, 1) := by decide +kernel
def fJ1_canEncode_9a6ad (x0 : Int32) : Int32 := if x0 < 0 then (
  0)
  else (
  if 255 < x0 then (
  0)
  else (
  1))
theorem bJ1_canEncode_9a6ad (x0 : Int32) : fJ1_canEncode_9a6ad x0 = 0 ∨ fJ1_canEncode_9a6ad x0 = 1 := by
  unfold fJ1_canEncode_9a6ad
  try simp only [zlet, zp, zj]
  repeat' split
  all_goals first | exact Or.inl rfl | exact Or.inr rfl | (simp; done)
set_option maxHeartbeats 4000000 in
theorem cJ1_canEncode_9a6ad_ok {E : zE} {d : Nat} (hd : 0 ≤ d) (x0 : Int32) (M : zM) {K : Int32 → Prop} (h : wpI (fJ1_canEncode_9a6ad x0) K) : CMi E d yJ1_canEncode_9a6ad cJ1_canEncode_9a6ad 1 (some .boolean) [.int x0] M (fun r N => M = N ∧ K r) := by
  refine CMi.of (by decide) (Nat.le_of_ble_eq_true rfl) (fun Γ hC hr => ?_)
  have hC : Cx E Γ RJ1 cJ1_canEncode_9a6ad 1 d := hC
  show G E Γ 1 0 [(0, .int x0)] [] M
  unfold fJ1_canEncode_9a6ad at h
  refine g_iload_n (i := 0) (x := x0) hC (dJ1_canEncode_9a6ad_0) rfl rfl ?_
  refine g_if_lt (tgt := 15) hC (dJ1_canEncode_9a6ad_1) (by decide) (fun c1 => ?_) (fun c1 => ?_)
  · have h := wpI_t c1 h
    refine g_iconst (v := 0) hC (dJ1_canEncode_9a6ad_15) kc_0 ?_
    refine g_zreturn hC hr (dJ1_canEncode_9a6ad_16) (Or.inl rfl) ?_
    exact ⟨rfl, wpI_s h⟩
  · have h := wpI_f c1 h
    refine g_iload_n (i := 0) (x := x0) hC (dJ1_canEncode_9a6ad_4) rfl rfl ?_
    refine g_sipush (v := 255) hC (dJ1_canEncode_9a6ad_5) ks_255 ?_
    refine g_icmp_gt (tgt := 15) hC (dJ1_canEncode_9a6ad_8) (by decide) (fun c8 => ?_) (fun c8 => ?_)
    · have h := wpI_t c8 h
      refine g_iconst (v := 0) hC (dJ1_canEncode_9a6ad_15) kc_0 ?_
      refine g_zreturn hC hr (dJ1_canEncode_9a6ad_16) (Or.inl rfl) ?_
      exact ⟨rfl, wpI_s h⟩
    · have h := wpI_f c8 h
      refine g_iconst (v := 1) hC (dJ1_canEncode_9a6ad_11) kc_1 ?_
      refine g_goto (tgt := 16) hC (dJ1_canEncode_9a6ad_12) (by decide) ?_
      refine g_zreturn hC hr (dJ1_canEncode_9a6ad_16) (Or.inr rfl) ?_
      exact ⟨rfl, wpI_s h⟩
/-! java/lang/StringLatin1.indexOfChar([BIII)I -/
theorem dJ1_indexOfChar_4cfef_0 : decode cJ1_indexOfChar_4cfef 0 = .ok (.iload_n 1, 1) := by decide +kernel
theorem dJ1_indexOfChar_4cfef_1 : decode cJ1_indexOfChar_4cfef 1 = .ok (.i2b, 1) := by decide +kernel
theorem dJ1_indexOfChar_4cfef_2 : decode cJ1_indexOfChar_4cfef 2 = .ok (.istore 4, 2) := by decide +kernel
theorem dJ1_indexOfChar_4cfef_4 : decode cJ1_indexOfChar_4cfef 4 = .ok (.iload_n 2, 1) := by decide +kernel
theorem dJ1_indexOfChar_4cfef_5 : decode cJ1_indexOfChar_4cfef 5 = .ok (.istore 5, 2) := by decide +kernel
theorem dJ1_indexOfChar_4cfef_7 : decode cJ1_indexOfChar_4cfef 7 = .ok (.iload 5, 2) := by decide +kernel
theorem dJ1_indexOfChar_4cfef_9 : decode cJ1_indexOfChar_4cfef 9 = .ok (.iload_n 3, 1) := by decide +kernel
theorem dJ1_indexOfChar_4cfef_10 : decode cJ1_indexOfChar_4cfef 10 = .ok (.if_icmp .ge 21, 3) := by decide +kernel
theorem dJ1_indexOfChar_4cfef_13 : decode cJ1_indexOfChar_4cfef 13 = .ok (.aload_n 0, 1) := by decide +kernel
theorem dJ1_indexOfChar_4cfef_14 : decode cJ1_indexOfChar_4cfef 14 = .ok (.iload 5, 2) := by decide +kernel
theorem dJ1_indexOfChar_4cfef_16 : decode cJ1_indexOfChar_4cfef 16 = .ok (.baload, 1) := by decide +kernel
theorem dJ1_indexOfChar_4cfef_17 : decode cJ1_indexOfChar_4cfef 17 = .ok (.iload 4, 2) := by decide +kernel
theorem dJ1_indexOfChar_4cfef_19 : decode cJ1_indexOfChar_4cfef 19 = .ok (.if_icmp .ne 6, 3) := by decide +kernel
theorem dJ1_indexOfChar_4cfef_22 : decode cJ1_indexOfChar_4cfef 22 = .ok (.iload 5, 2) := by decide +kernel
theorem dJ1_indexOfChar_4cfef_24 : decode cJ1_indexOfChar_4cfef 24 = .ok (.ireturn, 1) := by decide +kernel
theorem dJ1_indexOfChar_4cfef_25 : decode cJ1_indexOfChar_4cfef 25 = .ok (.iinc 5 1, 3) := by decide +kernel
theorem dJ1_indexOfChar_4cfef_28 : decode cJ1_indexOfChar_4cfef 28 = .ok (.goto (-21), 3) := by decide +kernel
theorem dJ1_indexOfChar_4cfef_31 : decode cJ1_indexOfChar_4cfef 31 = .ok (.iconst (-1), 1) := by decide +kernel
theorem dJ1_indexOfChar_4cfef_32 : decode cJ1_indexOfChar_4cfef 32 = .ok (.ireturn, 1) := by decide +kernel
def fJ1_indexOfChar_4cfef_L7 (x3 : Int32) (x4 : Int32) (M : zM) : Nat → Int32 → Option (Int32 ⊕ Unit)
  | 0, _ => none
  | n + 1, x5 => if x3 ≤ x5 then (
    some (.inr ()))
    else (
    if zin x5 6 then (
    if (zNm x5.toNatClampNeg) = x4 then (
    some (.inl x5))
    else (
    fJ1_indexOfChar_4cfef_L7 x3 x4 M n (x5 + 1))) else none)
def fJ1_indexOfChar_4cfef (x1 : Int32) (x2 : Int32) (x3 : Int32) (M : zM) : Option Int32 := (fJ1_indexOfChar_4cfef_L7 x3 x1.toInt8.toInt32 M 4000 x2).bind fun q => zs q (fun r => some r)
  (fun (_ : Unit) =>
  some (-1))
set_option maxHeartbeats 4000000 in
theorem lJ1_indexOfChar_4cfef_7 {E : zE} {Γ : zT} {d : Nat} {K1 : (Int32 ⊕ Unit) → Prop} (hC : Cx E Γ RJ1 cJ1_indexOfChar_4cfef 6 d) {post : Int32 → zM → Prop} (hr : zRi E Γ (some .int) post) (hd : 0 ≤ d) (x3 : Int32) (x4 : Int32) (M : zM) (hret : ∀ r : Int32, K1 (.inl r) → post r M) (hx : ∀ (_ : Unit), K1 (.inr ()) → G E Γ 6 31 [] [] M) :
    ∀ (n : Nat) (x5 : Int32), wpO (fJ1_indexOfChar_4cfef_L7 x3 x4 M n x5) K1 → G E Γ 6 7 [(0, .ref 147), (3, .int x3), (4, .int x4), (5, .int x5)] [] M := by
  intro n
  induction n with
  | zero =>
    intro x5 h
    exact (wpO_0 h).elim
  | succ n ih =>
    intro x5 h
    rw [fJ1_indexOfChar_4cfef_L7.eq_2] at h
    refine g_iload (i := 5) (x := x5) hC (dJ1_indexOfChar_4cfef_7) rfl ?_
    refine g_iload_n (i := 3) (x := x3) hC (dJ1_indexOfChar_4cfef_9) rfl rfl ?_
    refine g_icmp_ge (tgt := 31) hC (dJ1_indexOfChar_4cfef_10) (by decide) (fun c10 => ?_) (fun c10 => ?_)
    · have h := wpO_t c10 h
      refine g_sub (lv' := []) [] rfl ?_
      exact hx () (wpO_s h)
    · have h := wpO_f c10 h
      refine g_aload_n (i := 0) (x := 147) hC (dJ1_indexOfChar_4cfef_13) rfl rfl ?_
      refine g_iload (i := 5) (x := x5) hC (dJ1_indexOfChar_4cfef_14) rfl ?_
      obtain ⟨q1, h⟩ := wpO_g h
      refine g_baloadB hC (dJ1_indexOfChar_4cfef_16) q1 ?_
      refine g_iload (i := 4) (x := x4) hC (dJ1_indexOfChar_4cfef_17) rfl ?_
      refine g_icmp_ne (tgt := 25) hC (dJ1_indexOfChar_4cfef_19) (by decide) (fun c19 => ?_) (fun c19 => ?_)
      · have h := wpO_f c19 h
        refine g_iinc (x := x5) (v := (x5 + 1)) (lv2 := [(5, .int (x5 + 1)), (0, .ref 147), (3, .int x3), (4, .int x4)]) hC (dJ1_indexOfChar_4cfef_25) rfl rfl (by decide) rfl ?_
        refine g_goto (tgt := 7) hC (dJ1_indexOfChar_4cfef_28) (by decide) ?_
        refine g_sub (lv' := [(0, .ref 147), (3, .int x3), (4, .int x4), (5, .int (x5 + 1))]) [1, 2, 3, 0] rfl ?_
        exact ih _ h
      · have h := wpO_t c19 h
        refine g_iload (i := 5) (x := x5) hC (dJ1_indexOfChar_4cfef_22) rfl ?_
        refine g_ireturn hC hr (dJ1_indexOfChar_4cfef_24) ?_
        exact hret _ (wpO_s h)
set_option maxHeartbeats 4000000 in
theorem cJ1_indexOfChar_4cfef_ok {E : zE} {d : Nat} (hd : 0 ≤ d) (x1 : Int32) (x2 : Int32) (x3 : Int32) (M : zM) {K : Int32 → Prop} (h : wpO (fJ1_indexOfChar_4cfef x1 x2 x3 M) K) : CMi E d yJ1_indexOfChar_4cfef cJ1_indexOfChar_4cfef 6 (some .int) [.ref 147, .int x1, .int x2, .int x3] M (fun r N => M = N ∧ K r) := by
  refine CMi.of (by decide) (Nat.le_of_ble_eq_true rfl) (fun Γ hC hr => ?_)
  have hC : Cx E Γ RJ1 cJ1_indexOfChar_4cfef 6 d := hC
  show G E Γ 6 0 [(0, .ref 147), (1, .int x1), (2, .int x2), (3, .int x3)] [] M
  unfold fJ1_indexOfChar_4cfef at h
  refine g_iload_n (i := 1) (x := x1) hC (dJ1_indexOfChar_4cfef_0) rfl rfl ?_
  refine g_i2b hC (dJ1_indexOfChar_4cfef_1) ?_
  refine g_istore (i := 4) (lv2 := [(4, .int x1.toInt8.toInt32), (0, .ref 147), (1, .int x1), (2, .int x2), (3, .int x3)]) hC (dJ1_indexOfChar_4cfef_2) (by decide) rfl ?_
  refine g_iload_n (i := 2) (x := x2) hC (dJ1_indexOfChar_4cfef_4) rfl rfl ?_
  refine g_istore (i := 5) (lv2 := [(5, .int x2), (4, .int x1.toInt8.toInt32), (0, .ref 147), (1, .int x1), (2, .int x2), (3, .int x3)]) hC (dJ1_indexOfChar_4cfef_5) (by decide) rfl ?_
  refine g_sub (lv' := [(0, .ref 147), (3, .int x3), (4, .int x1.toInt8.toInt32), (5, .int x2)]) [2, 5, 1, 0] rfl ?_
  refine wpO_bJ h (fun KL7 hKL7 h => ?_)
  refine lJ1_indexOfChar_4cfef_7 (K1 := KL7) hC hr (by omega) x3 x1.toInt8.toInt32 M (fun r h => ?_) (fun _ h => ?_) _ _ h
  · have h := wpO_i (hKL7 _ h)
    exact ⟨rfl, wpO_s h⟩
  · have h := wpO_r (hKL7 _ h)
    refine g_iconst (v := (-1)) hC (dJ1_indexOfChar_4cfef_31) kc_m1 ?_
    refine g_ireturn hC hr (dJ1_indexOfChar_4cfef_32) ?_
    exact ⟨rfl, wpO_s h⟩
/-! java/lang/StringLatin1.indexOf([BIII)I -/
theorem dJ1_indexOf_4cfef_0 : decode cJ1_indexOf_4cfef 0 = .ok (.iload_n 1, 1) := by decide +kernel
theorem dJ1_indexOf_4cfef_1 : decode cJ1_indexOf_4cfef 1 = .ok (.invokestatic 88, 3) := by decide +kernel
theorem dJ1_indexOf_4cfef_4 : decode cJ1_indexOf_4cfef 4 = .ok (.ifCond .ne 5, 3) := by decide +kernel
theorem dJ1_indexOf_4cfef_7 : decode cJ1_indexOf_4cfef 7 = .ok (.iconst (-1), 1) := by decide +kernel
theorem dJ1_indexOf_4cfef_8 : decode cJ1_indexOf_4cfef 8 = .ok (.ireturn, 1) := by decide +kernel
theorem dJ1_indexOf_4cfef_9 : decode cJ1_indexOf_4cfef 9 = .ok (.iload_n 2, 1) := by decide +kernel
theorem dJ1_indexOf_4cfef_10 : decode cJ1_indexOf_4cfef 10 = .ok (.iconst 0, 1) := by decide +kernel
theorem dJ1_indexOf_4cfef_11 : decode cJ1_indexOf_4cfef 11 = .ok (.invokestatic 92, 3) := by decide +kernel
theorem dJ1_indexOf_4cfef_14 : decode cJ1_indexOf_4cfef 14 = .ok (.istore_n 2, 1) := by decide +kernel
theorem dJ1_indexOf_4cfef_15 : decode cJ1_indexOf_4cfef 15 = .ok (.iload_n 3, 1) := by decide +kernel
theorem dJ1_indexOf_4cfef_16 : decode cJ1_indexOf_4cfef 16 = .ok (.aload_n 0, 1) := by decide +kernel
theorem dJ1_indexOf_4cfef_17 : decode cJ1_indexOf_4cfef 17 = .ok (.arraylength, 1) := by decide +kernel
theorem dJ1_indexOf_4cfef_18 : decode cJ1_indexOf_4cfef 18 = .ok (.invokestatic 38, 3) := by decide +kernel
theorem dJ1_indexOf_4cfef_21 : decode cJ1_indexOf_4cfef 21 = .ok (.istore_n 3, 1) := by decide +kernel
theorem dJ1_indexOf_4cfef_22 : decode cJ1_indexOf_4cfef 22 = .ok (.iload_n 2, 1) := by decide +kernel
theorem dJ1_indexOf_4cfef_23 : decode cJ1_indexOf_4cfef 23 = .ok (.iload_n 3, 1) := by decide +kernel
theorem dJ1_indexOf_4cfef_24 : decode cJ1_indexOf_4cfef 24 = .ok (.if_icmp .lt 5, 3) := by decide +kernel
theorem dJ1_indexOf_4cfef_27 : decode cJ1_indexOf_4cfef 27 = .ok (.iconst (-1), 1) := by decide +kernel
theorem dJ1_indexOf_4cfef_28 : decode cJ1_indexOf_4cfef 28 = .ok (.ireturn, 1) := by decide +kernel
theorem dJ1_indexOf_4cfef_29 : decode cJ1_indexOf_4cfef 29 = .ok (.aload_n 0, 1) := by decide +kernel
theorem dJ1_indexOf_4cfef_30 : decode cJ1_indexOf_4cfef 30 = .ok (.iload_n 1, 1) := by decide +kernel
theorem dJ1_indexOf_4cfef_31 : decode cJ1_indexOf_4cfef 31 = .ok (.iload_n 2, 1) := by decide +kernel
theorem dJ1_indexOf_4cfef_32 : decode cJ1_indexOf_4cfef 32 = .ok (.iload_n 3, 1) := by decide +kernel
theorem dJ1_indexOf_4cfef_33 : decode cJ1_indexOf_4cfef 33 = .ok (.invokestatic 95, 3) := by decide +kernel
theorem dJ1_indexOf_4cfef_36 : decode cJ1_indexOf_4cfef 36 = .ok (.ireturn, 1) := by decide +kernel
def fJ1_indexOf_4cfef (x1 : Int32) (x2 : Int32) (x3 : Int32) (M : zM) : Option Int32 := if (fJ1_canEncode_9a6ad x1) = 0 then (
  some (-1))
  else (
  zlet (zmax x2 0) fun (x2_14 : Int32) =>
  zlet (zmin x3 6) fun (x3_21 : Int32) =>
  if x2_14 < x3_21 then (
  (fJ1_indexOfChar_4cfef x1 x2_14 x3_21 M).bind fun (r2 : Int32) =>
  some r2)
  else (
  some (-1)))
set_option maxHeartbeats 4000000 in
theorem cJ1_indexOf_4cfef_ok {E : zE} {d : Nat} (hd : 1 ≤ d) (x1 : Int32) (x2 : Int32) (x3 : Int32) (M : zM) {K : Int32 → Prop} (h : wpO (fJ1_indexOf_4cfef x1 x2 x3 M) K) : CMi E d yJ1_indexOf_4cfef cJ1_indexOf_4cfef 4 (some .int) [.ref 147, .int x1, .int x2, .int x3] M (fun r N => M = N ∧ K r) := by
  refine CMi.of (by decide) (Nat.le_of_ble_eq_true rfl) (fun Γ hC hr => ?_)
  have hC : Cx E Γ RJ1 cJ1_indexOf_4cfef 4 d := hC
  show G E Γ 4 0 [(0, .ref 147), (1, .int x1), (2, .int x2), (3, .int x3)] [] M
  unfold fJ1_indexOf_4cfef at h
  refine g_iload_n (i := 1) (x := x1) hC (dJ1_indexOf_4cfef_0) rfl rfl ?_
  refine g_callSi ([.int x1]) hC wsJ1_88 (dJ1_indexOf_4cfef_1) rfl (by omega) (Nat.le_of_ble_eq_true rfl) (cJ1_canEncode_9a6ad_ok (by omega) x1 M (K := fun r => r = fJ1_canEncode_9a6ad x1) rfl) (fun r N q => ?_)
  obtain ⟨rfl, rfl⟩ := q
  refine g_if_ne (tgt := 9) hC (dJ1_indexOf_4cfef_4) (by decide) (fun c4 => ?_) (fun c4 => ?_)
  · have h := wpO_f c4 h
    refine g_iload_n (i := 2) (x := x2) hC (dJ1_indexOf_4cfef_9) rfl rfl ?_
    refine g_iconst (v := 0) hC (dJ1_indexOf_4cfef_10) kc_0 ?_
    refine g_max hC wmJ1_92 (dJ1_indexOf_4cfef_11) (by omega) (Nat.le_of_ble_eq_true rfl) ?_
    refine g_nmi (fun x2_14 e_x2_14 => ?_)
    have h := wpO_n e_x2_14 h
    refine g_istore_n (i := 2) (lv2 := [(2, .int x2_14), (0, .ref 147), (1, .int x1), (3, .int x3)]) hC (dJ1_indexOf_4cfef_14) rfl (by decide) rfl ?_
    refine g_iload_n (i := 3) (x := x3) hC (dJ1_indexOf_4cfef_15) rfl rfl ?_
    refine g_aload_n (i := 0) (x := 147) hC (dJ1_indexOf_4cfef_16) rfl rfl ?_
    refine g_alenB hC (dJ1_indexOf_4cfef_17) ?_
    refine g_min hC wmJ1_38 (dJ1_indexOf_4cfef_18) (by omega) (Nat.le_of_ble_eq_true rfl) ?_
    refine g_nmi (fun x3_21 e_x3_21 => ?_)
    have h := wpO_n e_x3_21 h
    refine g_istore_n (i := 3) (lv2 := [(3, .int x3_21), (2, .int x2_14), (0, .ref 147), (1, .int x1)]) hC (dJ1_indexOf_4cfef_21) rfl (by decide) rfl ?_
    refine g_iload_n (i := 2) (x := x2_14) hC (dJ1_indexOf_4cfef_22) rfl rfl ?_
    refine g_iload_n (i := 3) (x := x3_21) hC (dJ1_indexOf_4cfef_23) rfl rfl ?_
    refine g_icmp_lt (tgt := 29) hC (dJ1_indexOf_4cfef_24) (by decide) (fun c24 => ?_) (fun c24 => ?_)
    · have h := wpO_t c24 h
      refine g_aload_n (i := 0) (x := 147) hC (dJ1_indexOf_4cfef_29) rfl rfl ?_
      refine g_iload_n (i := 1) (x := x1) hC (dJ1_indexOf_4cfef_30) rfl rfl ?_
      refine g_iload_n (i := 2) (x := x2_14) hC (dJ1_indexOf_4cfef_31) rfl rfl ?_
      refine g_iload_n (i := 3) (x := x3_21) hC (dJ1_indexOf_4cfef_32) rfl rfl ?_
      have h := wpO_b h
      refine g_callSi ([.ref 147, .int x1, .int x2_14, .int x3_21]) hC wsJ1_95 (dJ1_indexOf_4cfef_33) rfl (by omega) (Nat.le_of_ble_eq_true rfl) (cJ1_indexOfChar_4cfef_ok (by omega) x1 x2_14 x3_21 M h) (fun r2 N q => ?_)
      obtain ⟨rfl, h⟩ := q
      refine g_ireturn hC hr (dJ1_indexOf_4cfef_36) ?_
      exact ⟨rfl, wpO_s h⟩
    · have h := wpO_f c24 h
      refine g_iconst (v := (-1)) hC (dJ1_indexOf_4cfef_27) kc_m1 ?_
      refine g_ireturn hC hr (dJ1_indexOf_4cfef_28) ?_
      exact ⟨rfl, wpO_s h⟩
  · have h := wpO_t c4 h
    refine g_iconst (v := (-1)) hC (dJ1_indexOf_4cfef_7) kc_m1 ?_
    refine g_ireturn hC hr (dJ1_indexOf_4cfef_8) ?_
    exact ⟨rfl, wpO_s h⟩
/-! java/lang/String.indexOf(II)I -/
theorem dJ0_indexOf_7cf53_0 : decode cJ0_indexOf_7cf53 0 = .ok (.aload_n 0, 1) := by decide +kernel
theorem dJ0_indexOf_7cf53_1 : decode cJ0_indexOf_7cf53 1 = .ok (.invokevirtual 492, 3) := by decide +kernel
theorem dJ0_indexOf_7cf53_4 : decode cJ0_indexOf_7cf53 4 = .ok (.ifCond .eq 19, 3) := by decide +kernel
theorem dJ0_indexOf_7cf53_7 : decode cJ0_indexOf_7cf53 7 = .ok (.aload_n 0, 1) := by decide +kernel
theorem dJ0_indexOf_7cf53_8 : decode cJ0_indexOf_7cf53 8 = .ok (.getfield 9, 3) := by decide +kernel
theorem dJ0_indexOf_7cf53_11 : decode cJ0_indexOf_7cf53 11 = .ok (.iload_n 1, 1) := by decide +kernel
theorem dJ0_indexOf_7cf53_12 : decode cJ0_indexOf_7cf53 12 = .ok (.iload_n 2, 1) := by decide +kernel
theorem dJ0_indexOf_7cf53_13 : decode cJ0_indexOf_7cf53 13 = .ok (.aload_n 0, 1) := by decide +kernel
theorem dJ0_indexOf_7cf53_14 : decode cJ0_indexOf_7cf53 14 = .ok (.invokevirtual 505, 3) := by decide +kernel
theorem dJ0_indexOf_7cf53_17 : decode cJ0_indexOf_7cf53 17 = .ok (.invokestatic 637, 3) := by decide +kernel
theorem dJ0_indexOf_7cf53_20 : decode cJ0_indexOf_7cf53 20 = .ok (.goto 16, 3) := by decide +kernel
theorem dJ0_indexOf_7cf53_23 : decode cJ0_indexOf_7cf53 23 = .ok (.aload_n 0, 1) := by decide +kernel
theorem dJ0_indexOf_7cf53_24 : decode cJ0_indexOf_7cf53 24 = .ok (.getfield 9, 3) := by decide +kernel
theorem dJ0_indexOf_7cf53_27 : decode cJ0_indexOf_7cf53 27 = .ok (.iload_n 1, 1) := by decide +kernel
theorem dJ0_indexOf_7cf53_28 : decode cJ0_indexOf_7cf53 28 = .ok (.iload_n 2, 1) := by decide +kernel
theorem dJ0_indexOf_7cf53_29 : decode cJ0_indexOf_7cf53 29 = .ok (.aload_n 0, 1) := by decide +kernel
theorem dJ0_indexOf_7cf53_30 : decode cJ0_indexOf_7cf53 30 = .ok (.invokevirtual 505, 3) := by decide +kernel
theorem dJ0_indexOf_7cf53_33 : decode cJ0_indexOf_7cf53 33 = .ok (.invokestatic 640, 3) := by decide +kernel
theorem dJ0_indexOf_7cf53_36 : decode cJ0_indexOf_7cf53 36 = .ok (.ireturn, 1) := by decide +kernel
def fJ0_indexOf_7cf53 (x1 : Int32) (x2 : Int32) (M : zM) : Option Int32 := if fJ0_isLatin1_aae02 = 0 then (
  if False then (
  none) else none)
  else (
  (fJ1_indexOf_4cfef x1 x2 fJ0_length_8abf5 M).bind fun (r4 : Int32) =>
  some r4)
set_option maxHeartbeats 4000000 in
theorem cJ0_indexOf_7cf53_ok {E : zE} {d : Nat} (hd : 2 ≤ d) (x1 : Int32) (x2 : Int32) (M : zM) {K : Int32 → Prop} (h : wpO (fJ0_indexOf_7cf53 x1 x2 M) K) : CMi E d yJ0_indexOf_7cf53 cJ0_indexOf_7cf53 3 (some .int) [.ref 146, .int x1, .int x2] M (fun r N => M = N ∧ K r) := by
  refine CMi.of (by decide) (Nat.le_of_ble_eq_true rfl) (fun Γ hC hr => ?_)
  have hC : Cx E Γ RJ0 cJ0_indexOf_7cf53 3 d := hC
  show G E Γ 3 0 [(0, .ref 146), (1, .int x1), (2, .int x2)] [] M
  unfold fJ0_indexOf_7cf53 at h
  refine g_aload_n (i := 0) (x := 146) hC (dJ0_indexOf_7cf53_0) rfl rfl ?_
  refine g_callTi ([]) hC wtJ0_492 (dJ0_indexOf_7cf53_1)  rfl (by omega) (Nat.le_of_ble_eq_true rfl) (cJ0_isLatin1_aae02_ok (by omega) M (K := fun r => r = fJ0_isLatin1_aae02) rfl) (fun r N q => ?_)
  obtain ⟨rfl, rfl⟩ := q
  refine g_if_eq (tgt := 23) hC (dJ0_indexOf_7cf53_4) (by decide) (fun c4 => ?_) (fun c4 => ?_)
  · have h := wpO_t c4 h
    refine g_aload_n (i := 0) (x := 146) hC (dJ0_indexOf_7cf53_23) rfl rfl ?_
    refine g_getV hC m_1678 (dJ0_indexOf_7cf53_24) ?_
    refine g_iload_n (i := 1) (x := x1) hC (dJ0_indexOf_7cf53_27) rfl rfl ?_
    refine g_iload_n (i := 2) (x := x2) hC (dJ0_indexOf_7cf53_28) rfl rfl ?_
    refine g_aload_n (i := 0) (x := 146) hC (dJ0_indexOf_7cf53_29) rfl rfl ?_
    refine g_callTi ([]) hC wtJ0_505 (dJ0_indexOf_7cf53_30)  rfl (by omega) (Nat.le_of_ble_eq_true rfl) (cJ0_length_8abf5_ok (by omega) M (K := fun r => r = fJ0_length_8abf5) rfl) (fun r N q => ?_)
    obtain ⟨rfl, rfl⟩ := q
    obtain ⟨qF, h⟩ := wpO_g h
    exact qF.elim
  · have h := wpO_f c4 h
    refine g_aload_n (i := 0) (x := 146) hC (dJ0_indexOf_7cf53_7) rfl rfl ?_
    refine g_getV hC m_1678 (dJ0_indexOf_7cf53_8) ?_
    refine g_iload_n (i := 1) (x := x1) hC (dJ0_indexOf_7cf53_11) rfl rfl ?_
    refine g_iload_n (i := 2) (x := x2) hC (dJ0_indexOf_7cf53_12) rfl rfl ?_
    refine g_aload_n (i := 0) (x := 146) hC (dJ0_indexOf_7cf53_13) rfl rfl ?_
    refine g_callTi ([]) hC wtJ0_505 (dJ0_indexOf_7cf53_14)  rfl (by omega) (Nat.le_of_ble_eq_true rfl) (cJ0_length_8abf5_ok (by omega) M (K := fun r => r = fJ0_length_8abf5) rfl) (fun r N q => ?_)
    obtain ⟨rfl, rfl⟩ := q
    have h := wpO_b h
    refine g_callSi ([.ref 147, .int x1, .int x2, .int fJ0_length_8abf5]) hC wsJ0_637 (dJ0_indexOf_7cf53_17) rfl (by omega) (Nat.le_of_ble_eq_true rfl) (cJ1_indexOf_4cfef_ok (by omega) x1 x2 fJ0_length_8abf5 M h) (fun r4 N q => ?_)
    obtain ⟨rfl, h⟩ := q
    refine g_goto (tgt := 36) hC (dJ0_indexOf_7cf53_20) (by decide) ?_
    refine g_ireturn hC hr (dJ0_indexOf_7cf53_36) ?_
    exact ⟨rfl, wpO_s h⟩
/-! java/lang/String.indexOf(I)I -/
theorem dJ0_indexOf_0f7a4_0 : decode cJ0_indexOf_0f7a4 0 = .ok (.aload_n 0, 1) := by decide +kernel
theorem dJ0_indexOf_0f7a4_1 : decode cJ0_indexOf_0f7a4 1 = .ok (.iload_n 1, 1) := by decide +kernel
theorem dJ0_indexOf_0f7a4_2 : decode cJ0_indexOf_0f7a4 2 = .ok (.iconst 0, 1) := by decide +kernel
theorem dJ0_indexOf_0f7a4_3 : decode cJ0_indexOf_0f7a4 3 = .ok (.invokevirtual 633, 3) := by decide +kernel
theorem dJ0_indexOf_0f7a4_6 : decode cJ0_indexOf_0f7a4 6 = .ok (.ireturn, 1) := by decide +kernel
def fJ0_indexOf_0f7a4 (x1 : Int32) (M : zM) : Option Int32 := (fJ0_indexOf_7cf53 x1 0 M).bind fun (r1 : Int32) =>
  some r1
set_option maxHeartbeats 4000000 in
theorem cJ0_indexOf_0f7a4_ok {E : zE} {d : Nat} (hd : 3 ≤ d) (x1 : Int32) (M : zM) {K : Int32 → Prop} (h : wpO (fJ0_indexOf_0f7a4 x1 M) K) : CMi E d yJ0_indexOf_0f7a4 cJ0_indexOf_0f7a4 2 (some .int) [.ref 146, .int x1] M (fun r N => M = N ∧ K r) := by
  refine CMi.of (by decide) (Nat.le_of_ble_eq_true rfl) (fun Γ hC hr => ?_)
  have hC : Cx E Γ RJ0 cJ0_indexOf_0f7a4 2 d := hC
  show G E Γ 2 0 [(0, .ref 146), (1, .int x1)] [] M
  unfold fJ0_indexOf_0f7a4 at h
  refine g_aload_n (i := 0) (x := 146) hC (dJ0_indexOf_0f7a4_0) rfl rfl ?_
  refine g_iload_n (i := 1) (x := x1) hC (dJ0_indexOf_0f7a4_1) rfl rfl ?_
  refine g_iconst (v := 0) hC (dJ0_indexOf_0f7a4_2) kc_0 ?_
  have h := wpO_b h
  refine g_callTi ([.int x1, .int 0]) hC wtJ0_633 (dJ0_indexOf_0f7a4_3)  rfl (by omega) (Nat.le_of_ble_eq_true rfl) (cJ0_indexOf_7cf53_ok (by omega) x1 0 M h) (fun r1 N q => ?_)
  obtain ⟨rfl, h⟩ := q
  refine g_ireturn hC hr (dJ0_indexOf_0f7a4_6) ?_
  exact ⟨rfl, wpO_s h⟩
/-! LostByState$RuleReader.readName()Z -/
theorem dX5_readName_0 : decode cX5_readName 0 = .ok (.aload_n 0, 1) := by decide +kernel
theorem dX5_readName_1 : decode cX5_readName 1 = .ok (.invokevirtual 53, 3) := by decide +kernel
theorem dX5_readName_4 : decode cX5_readName 4 = .ok (.istore_n 1, 1) := by decide +kernel
theorem dX5_readName_5 : decode cX5_readName 5 = .ok (.iload_n 1, 1) := by decide +kernel
theorem dX5_readName_6 : decode cX5_readName 6 = .ok (.ifCond .ge 7, 3) := by decide +kernel
theorem dX5_readName_9 : decode cX5_readName 9 = .ok (.iconst (-1), 1) := by decide +kernel
theorem dX5_readName_10 : decode cX5_readName 10 = .ok (.goto 10, 3) := by decide +kernel
theorem dX5_readName_13 : decode cX5_readName 13 = .ok (.ldc 77, 2) := by decide +kernel
theorem dX5_readName_15 : decode cX5_readName 15 = .ok (.iload_n 1, 1) := by decide +kernel
theorem dX5_readName_16 : decode cX5_readName 16 = .ok (.i2c, 1) := by decide +kernel
theorem dX5_readName_17 : decode cX5_readName 17 = .ok (.invokevirtual 79, 3) := by decide +kernel
theorem dX5_readName_20 : decode cX5_readName 20 = .ok (.istore_n 2, 1) := by decide +kernel
theorem dX5_readName_21 : decode cX5_readName 21 = .ok (.iload_n 2, 1) := by decide +kernel
theorem dX5_readName_22 : decode cX5_readName 22 = .ok (.ifCond .ge 5, 3) := by decide +kernel
theorem dX5_readName_25 : decode cX5_readName 25 = .ok (.iconst 0, 1) := by decide +kernel
theorem dX5_readName_26 : decode cX5_readName 26 = .ok (.ireturn, 1) := by decide +kernel
theorem dX5_readName_27 : decode cX5_readName 27 = .ok (.aload_n 0, 1) := by decide +kernel
theorem dX5_readName_28 : decode cX5_readName 28 = .ok (.getfield 22, 3) := by decide +kernel
theorem dX5_readName_31 : decode cX5_readName 31 = .ok (.sipush 1000, 3) := by decide +kernel
theorem dX5_readName_34 : decode cX5_readName 34 = .ok (.iload_n 2, 1) := by decide +kernel
theorem dX5_readName_35 : decode cX5_readName 35 = .ok (.iadd, 1) := by decide +kernel
theorem dX5_readName_36 : decode cX5_readName 36 = .ok (.invokevirtual 57, 3) := by decide +kernel
theorem dX5_readName_39 : decode cX5_readName 39 = .ok (.aload_n 0, 1) := by decide +kernel
theorem dX5_readName_40 : decode cX5_readName 40 = .ok (.dup, 1) := by decide +kernel
theorem dX5_readName_41 : decode cX5_readName 41 = .ok (.getfield 15, 3) := by decide +kernel
theorem dX5_readName_44 : decode cX5_readName 44 = .ok (.iconst 1, 1) := by decide +kernel
theorem dX5_readName_45 : decode cX5_readName 45 = .ok (.iadd, 1) := by decide +kernel
theorem dX5_readName_46 : decode cX5_readName 46 = .ok (.putfield 15, 3) := by decide +kernel
theorem dX5_readName_49 : decode cX5_readName 49 = .ok (.iconst 1, 1) := by decide +kernel
theorem dX5_readName_50 : decode cX5_readName 50 = .ok (.ireturn, 1) := by decide +kernel
def fX5_readName  (M : zM) : Option (Int32 × zM) := (fX5_seen M).bind fun (r1 : Int32) =>
  (if 0 ≤ r1 then (
  (fJ0_indexOf_0f7a4 ((r1.toUInt32 % 65536).toInt32) M).bind fun (r3 : Int32) =>
  some r3)
  else (
  some (-1)) : Option Int32).bind fun (s0_20 : Int32) =>
  if 0 ≤ s0_20 then (
  (fX4_add 17 (1000 + s0_20) M).bind fun (M36 : zM) =>
  zlet (zSI M36 21 3 ((M36.1 21 3) + 1)) fun (M46 : zM) =>
  some (1, M46))
  else (
  some (0, M))
set_option maxHeartbeats 4000000 in
theorem cX5_readName_ok {E : zE} {d : Nat} (hd : 4 ≤ d)  (M : zM) {K : (Int32 × zM) → Prop} (h : wpO (fX5_readName  M) K) : CMi E d yX5_readName cX5_readName 3 (some .boolean) [.ref 21] M (fun r N => K (r, N)) := by
  refine CMi.of (by decide) (Nat.le_of_ble_eq_true rfl) (fun Γ hC hr => ?_)
  have hC : Cx E Γ RX5 cX5_readName 3 d := hC
  show G E Γ 3 0 [(0, .ref 21)] [] M
  unfold fX5_readName at h
  refine g_aload_n (i := 0) (x := 21) hC (dX5_readName_0) rfl rfl ?_
  have h := wpO_b h
  refine g_callVi ([]) hC wvX5_53 (dX5_readName_1) rfl rfl (by omega) (Nat.le_of_ble_eq_true rfl) (cX5_seen_ok (by omega) M h) (fun r1 N q => ?_)
  obtain ⟨rfl, h⟩ := q
  refine g_istore_n (i := 1) (lv2 := [(1, .int r1), (0, .ref 21)]) hC (dX5_readName_4) rfl (by decide) rfl ?_
  refine g_iload_n (i := 1) (x := r1) hC (dX5_readName_5) rfl rfl ?_
  refine wpO_bJ h (fun KJ2 hKJ2 h => ?_)
  have hJ2 : ∀ (s0_20 : Int32), KJ2 s0_20 → G E Γ 3 20 [(0, .ref 21)] [.int s0_20] M := by
    intro s0_20 h
    have h := hKJ2 _ h
    refine g_istore_n (i := 2) (lv2 := [(2, .int s0_20), (0, .ref 21)]) hC (dX5_readName_20) rfl (by decide) rfl ?_
    refine g_iload_n (i := 2) (x := s0_20) hC (dX5_readName_21) rfl rfl ?_
    refine g_if_ge (tgt := 27) hC (dX5_readName_22) (by decide) (fun c22 => ?_) (fun c22 => ?_)
    · have h := wpO_t c22 h
      refine g_aload_n (i := 0) (x := 21) hC (dX5_readName_27) rfl rfl ?_
      refine g_getR (r := 17) hC flX5_22 (dX5_readName_28) rfl rfl rfl ?_
      refine g_sipush (v := 1000) hC (dX5_readName_31) ks_1000 ?_
      refine g_iload_n (i := 2) (x := s0_20) hC (dX5_readName_34) rfl rfl ?_
      refine g_iadd hC (dX5_readName_35) ?_
      have h := wpO_b h
      refine g_callVv ([.int (1000 + s0_20)]) hC wvX5_57 (dX5_readName_36) rfl rfl (by omega) (Nat.le_of_ble_eq_true rfl) (cX4_add_ok (by omega) 17 (1000 + s0_20) M h) (fun M36 h => ?_)
      refine g_aload_n (i := 0) (x := 21) hC (dX5_readName_39) rfl rfl ?_
      refine g_dup hC (dX5_readName_40) rfl ?_
      refine g_getI hC flX5_15 (dX5_readName_41) rfl rfl ?_
      refine g_iconst (v := 1) hC (dX5_readName_44) kc_1 ?_
      refine g_iadd hC (dX5_readName_45) ?_
      refine g_putI hC fpX5_15 (dX5_readName_46) rfl rfl rfl rfl ?_
      refine g_nmM (fun M46 e_M46 => ?_)
      have h := wpO_n e_M46 h
      refine g_iconst (v := 1) hC (dX5_readName_49) kc_1 ?_
      refine g_zreturn hC hr (dX5_readName_50) (Or.inr rfl) ?_
      exact wpO_s h
    · have h := wpO_f c22 h
      refine g_iconst (v := 0) hC (dX5_readName_25) kc_0 ?_
      refine g_zreturn hC hr (dX5_readName_26) (Or.inl rfl) ?_
      exact wpO_s h
  refine g_if_ge (tgt := 13) hC (dX5_readName_6) (by decide) (fun c6 => ?_) (fun c6 => ?_)
  · have h := wpO_t c6 h
    refine g_ldcS hC (dX5_readName_13) ?_
    refine g_iload_n (i := 1) (x := r1) hC (dX5_readName_15) rfl rfl ?_
    refine g_i2c hC (dX5_readName_16) ?_
    have h := wpO_b h
    refine g_callTi ([.int ((r1.toUInt32 % 65536).toInt32)]) hC wtX5_79 (dX5_readName_17)  rfl (by omega) (Nat.le_of_ble_eq_true rfl) (cJ0_indexOf_0f7a4_ok (by omega) ((r1.toUInt32 % 65536).toInt32) M h) (fun r3 N q => ?_)
    obtain ⟨rfl, h⟩ := q
    refine g_sub (lv' := [(0, .ref 21)]) [1] rfl ?_
    exact hJ2 _ (wpO_s h)
  · have h := wpO_f c6 h
    refine g_iconst (v := (-1)) hC (dX5_readName_9) kc_m1 ?_
    refine g_goto (tgt := 20) hC (dX5_readName_10) (by decide) ?_
    refine g_sub (lv' := [(0, .ref 21)]) [1] rfl ?_
    exact hJ2 _ (wpO_s h)
