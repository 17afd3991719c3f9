/-! LostByState.restsGain(IIII)I -/
theorem dX11_restsGain_0 : decode cX11_restsGain 0 = .ok (.iconst 0, 1) := by decide +kernel
theorem dX11_restsGain_1 : decode cX11_restsGain 1 = .ok (.iload_n 2, 1) := by decide +kernel
theorem dX11_restsGain_2 : decode cX11_restsGain 2 = .ok (.iload_n 0, 1) := by decide +kernel
theorem dX11_restsGain_3 : decode cX11_restsGain 3 = .ok (.iload_n 1, 1) := by decide +kernel
theorem dX11_restsGain_4 : decode cX11_restsGain 4 = .ok (.iadd, 1) := by decide +kernel
theorem dX11_restsGain_5 : decode cX11_restsGain 5 = .ok (.iconst 2, 1) := by decide +kernel
theorem dX11_restsGain_6 : decode cX11_restsGain 6 = .ok (.idiv, 1) := by decide +kernel
theorem dX11_restsGain_7 : decode cX11_restsGain 7 = .ok (.isub, 1) := by decide +kernel
theorem dX11_restsGain_8 : decode cX11_restsGain 8 = .ok (.invokestatic 346, 3) := by decide +kernel
theorem dX11_restsGain_11 : decode cX11_restsGain 11 = .ok (.istore 4, 2) := by decide +kernel
theorem dX11_restsGain_13 : decode cX11_restsGain 13 = .ok (.iload 4, 2) := by decide +kernel
theorem dX11_restsGain_15 : decode cX11_restsGain 15 = .ok (.iload_n 0, 1) := by decide +kernel
theorem dX11_restsGain_16 : decode cX11_restsGain 16 = .ok (.iload_n 1, 1) := by decide +kernel
theorem dX11_restsGain_17 : decode cX11_restsGain 17 = .ok (.if_icmp .le 7, 3) := by decide +kernel
theorem dX11_restsGain_20 : decode cX11_restsGain 20 = .ok (.iconst 3, 1) := by decide +kernel
theorem dX11_restsGain_21 : decode cX11_restsGain 21 = .ok (.goto 4, 3) := by decide +kernel
theorem dX11_restsGain_24 : decode cX11_restsGain 24 = .ok (.iconst 0, 1) := by decide +kernel
theorem dX11_restsGain_25 : decode cX11_restsGain 25 = .ok (.iadd, 1) := by decide +kernel
theorem dX11_restsGain_26 : decode cX11_restsGain 26 = .ok (.iload_n 3, 1) := by decide +kernel
theorem dX11_restsGain_27 : decode cX11_restsGain 27 = .ok (.iload_n 0, 1) := by decide +kernel
theorem dX11_restsGain_28 : decode cX11_restsGain 28 = .ok (.imul, 1) := by decide +kernel
theorem dX11_restsGain_29 : decode cX11_restsGain 29 = .ok (.isub, 1) := by decide +kernel
theorem dX11_restsGain_30 : decode cX11_restsGain 30 = .ok (.ireturn, 1) := by decide +kernel
def fX11_restsGain (x0 : Int32) (x1 : Int32) (x2 : Int32) (x3 : Int32) : Int32 := zlet (zmax 0 (x2 - ((x0 + x1) / 2))) fun (x4_11 : Int32) =>
  zlet (if x0 ≤ x1 then (
  0)
  else (
  3)) fun (s0_25 : Int32) =>
  ((x4_11 + s0_25) - (x3 * x0))
set_option maxHeartbeats 4000000 in
theorem cX11_restsGain_ok {E : zE} {d : Nat} (hd : 1 ≤ d) (x0 : Int32) (x1 : Int32) (x2 : Int32) (x3 : Int32) (M : zM) {K : Int32 → Prop} (h : wpI (fX11_restsGain x0 x1 x2 x3) K) : CMi E d yX11_restsGain cX11_restsGain 5 (some .int) [.int x0, .int x1, .int x2, .int x3] M (fun r N => M = N ∧ K r) := by
  refine CMi.of (by decide) (Nat.le_of_ble_eq_true rfl) (fun Γ hC hr => ?_)
  have hC : Cx E Γ RX11 cX11_restsGain 5 d := hC
  show G E Γ 5 0 [(0, .int x0), (1, .int x1), (2, .int x2), (3, .int x3)] [] M
  unfold fX11_restsGain at h
  refine g_iconst (v := 0) hC (dX11_restsGain_0) kc_0 ?_
  refine g_iload_n (i := 2) (x := x2) hC (dX11_restsGain_1) rfl rfl ?_
  refine g_iload_n (i := 0) (x := x0) hC (dX11_restsGain_2) rfl rfl ?_
  refine g_iload_n (i := 1) (x := x1) hC (dX11_restsGain_3) rfl rfl ?_
  refine g_iadd hC (dX11_restsGain_4) ?_
  refine g_iconst (v := 2) hC (dX11_restsGain_5) kc_2 ?_
  refine g_idiv hC (dX11_restsGain_6) (by decide) ?_
  refine g_isub hC (dX11_restsGain_7) ?_
  refine g_max hC wmX11_346 (dX11_restsGain_8) (by omega) (Nat.le_of_ble_eq_true rfl) ?_
  refine g_nmi (fun x4_11 e_x4_11 => ?_)
  have h := wpI_n e_x4_11 h
  refine g_istore (i := 4) (lv2 := [(4, .int x4_11), (0, .int x0), (1, .int x1), (2, .int x2), (3, .int x3)]) hC (dX11_restsGain_11) (by decide) rfl ?_
  refine g_iload (i := 4) (x := x4_11) hC (dX11_restsGain_13) rfl ?_
  refine g_iload_n (i := 0) (x := x0) hC (dX11_restsGain_15) rfl rfl ?_
  refine g_iload_n (i := 1) (x := x1) hC (dX11_restsGain_16) rfl rfl ?_
  obtain ⟨s0_25, e_s0_25, h⟩ := wpI_l h
  have hJ1 : G E Γ 5 25 [(0, .int x0), (3, .int x3)] [.int s0_25, .int x4_11] M := by
    refine g_iadd hC (dX11_restsGain_25) ?_
    refine g_iload_n (i := 3) (x := x3) hC (dX11_restsGain_26) rfl rfl ?_
    refine g_iload_n (i := 0) (x := x0) hC (dX11_restsGain_27) rfl rfl ?_
    refine g_imul hC (dX11_restsGain_28) ?_
    refine g_isub hC (dX11_restsGain_29) ?_
    refine g_ireturn hC hr (dX11_restsGain_30) ?_
    exact ⟨rfl, wpI_s h⟩
  refine g_icmp_le (tgt := 24) hC (dX11_restsGain_17) (by decide) (fun c17 => ?_) (fun c17 => ?_)
  · rw [if_pos c17] at e_s0_25
    refine g_iconst (v := 0) hC (dX11_restsGain_24) kc_0 ?_
    refine g_sub (lv' := [(0, .int x0), (3, .int x3)]) [1, 4] rfl ?_
    subst e_s0_25
    exact hJ1
  · rw [if_neg c17] at e_s0_25
    refine g_iconst (v := 3) hC (dX11_restsGain_20) kc_3 ?_
    refine g_goto (tgt := 25) hC (dX11_restsGain_21) (by decide) ?_
    refine g_sub (lv' := [(0, .int x0), (3, .int x3)]) [1, 4] rfl ?_
    subst e_s0_25
    exact hJ1
/-! LostByState.isBestWait(IIII)Z -/
theorem dX11_isBestWait_0 : decode cX11_isBestWait 0 = .ok (.iload_n 0, 1) := by decide +kernel
theorem dX11_isBestWait_1 : decode cX11_isBestWait 1 = .ok (.iload_n 1, 1) := by decide +kernel
theorem dX11_isBestWait_2 : decode cX11_isBestWait 2 = .ok (.iload_n 2, 1) := by decide +kernel
theorem dX11_isBestWait_3 : decode cX11_isBestWait 3 = .ok (.iload_n 3, 1) := by decide +kernel
theorem dX11_isBestWait_4 : decode cX11_isBestWait 4 = .ok (.invokestatic 470, 3) := by decide +kernel
theorem dX11_isBestWait_7 : decode cX11_isBestWait 7 = .ok (.istore 4, 2) := by decide +kernel
theorem dX11_isBestWait_9 : decode cX11_isBestWait 9 = .ok (.iconst 0, 1) := by decide +kernel
theorem dX11_isBestWait_10 : decode cX11_isBestWait 10 = .ok (.istore 5, 2) := by decide +kernel
theorem dX11_isBestWait_12 : decode cX11_isBestWait 12 = .ok (.iload 5, 2) := by decide +kernel
theorem dX11_isBestWait_14 : decode cX11_isBestWait 14 = .ok (.bipush 10, 2) := by decide +kernel
theorem dX11_isBestWait_16 : decode cX11_isBestWait 16 = .ok (.if_icmp .ge 24, 3) := by decide +kernel
theorem dX11_isBestWait_19 : decode cX11_isBestWait 19 = .ok (.iload 5, 2) := by decide +kernel
theorem dX11_isBestWait_21 : decode cX11_isBestWait 21 = .ok (.iload_n 1, 1) := by decide +kernel
theorem dX11_isBestWait_22 : decode cX11_isBestWait 22 = .ok (.iload_n 2, 1) := by decide +kernel
theorem dX11_isBestWait_23 : decode cX11_isBestWait 23 = .ok (.iload_n 3, 1) := by decide +kernel
theorem dX11_isBestWait_24 : decode cX11_isBestWait 24 = .ok (.invokestatic 470, 3) := by decide +kernel
theorem dX11_isBestWait_27 : decode cX11_isBestWait 27 = .ok (.iload 4, 2) := by decide +kernel
theorem dX11_isBestWait_29 : decode cX11_isBestWait 29 = .ok (.if_icmp .le 5, 3) := by decide +kernel
theorem dX11_isBestWait_32 : decode cX11_isBestWait 32 = .ok (.iconst 0, 1) := by decide +kernel
theorem dX11_isBestWait_33 : decode cX11_isBestWait 33 = .ok (.ireturn, 1) := by decide +kernel
theorem dX11_isBestWait_34 : decode cX11_isBestWait 34 = .ok (.iinc 5 1, 3) := by decide +kernel
theorem dX11_isBestWait_37 : decode cX11_isBestWait 37 = .ok (.goto (-25), 3) := by decide +kernel
theorem dX11_isBestWait_40 : decode cX11_isBestWait 40 = .ok (.iconst 1, 1) := by decide +kernel
theorem dX11_isBestWait_41 : decode cX11_isBestWait 41 = .ok (.ireturn, 1) := by decide +kernel
def fX11_isBestWait_L12 (x1 : Int32) (x2 : Int32) (x3 : Int32) (x4 : Int32) : Nat → Int32 → Option (Int32 ⊕ Unit)
  | 0, _ => none
  | n + 1, x5 => if 10 ≤ x5 then (
    some (.inr ()))
    else (
    if (fX11_restsGain x5 x1 x2 x3) ≤ x4 then (
    fX11_isBestWait_L12 x1 x2 x3 x4 n (x5 + 1))
    else (
    some (.inl 0)))
def fX11_isBestWait (x0 : Int32) (x1 : Int32) (x2 : Int32) (x3 : Int32) : Option Int32 := zlet (fX11_restsGain x0 x1 x2 x3) fun (x4_7 : Int32) =>
  (fX11_isBestWait_L12 x1 x2 x3 x4_7 4000 0).bind fun q => zs q (fun r => some r)
  (fun (_ : Unit) =>
  some 1)
set_option maxHeartbeats 4000000 in
theorem lX11_isBestWait_12 {E : zE} {Γ : zT} {d : Nat} {K1 : (Int32 ⊕ Unit) → Prop} (hC : Cx E Γ RX11 cX11_isBestWait 6 d) {post : Int32 → zM → Prop} (hr : zRi E Γ (some .boolean) post) (hd : 2 ≤ d) (x1 : Int32) (x2 : Int32) (x3 : Int32) (x4 : Int32) (M : zM) (hret : ∀ r : Int32, K1 (.inl r) → post r M) (hx : ∀ (_ : Unit), K1 (.inr ()) → G E Γ 6 40 [] [] M) :
    ∀ (n : Nat) (x5 : Int32), wpO (fX11_isBestWait_L12 x1 x2 x3 x4 n x5) K1 → G E Γ 6 12 [(1, .int x1), (2, .int x2), (3, .int x3), (4, .int x4), (5, .int x5)] [] M := by
  intro n
  induction n with
  | zero =>
    intro x5 h
    exact (wpO_0 h).elim
  | succ n ih =>
    intro x5 h
    rw [fX11_isBestWait_L12.eq_2] at h
    refine g_iload (i := 5) (x := x5) hC (dX11_isBestWait_12) rfl ?_
    refine g_bipush (v := 10) hC (dX11_isBestWait_14) kb_10 ?_
    refine g_icmp_ge (tgt := 40) hC (dX11_isBestWait_16) (by decide) (fun c16 => ?_) (fun c16 => ?_)
    · have h := wpO_t c16 h
      refine g_sub (lv' := []) [] rfl ?_
      exact hx () (wpO_s h)
    · have h := wpO_f c16 h
      refine g_iload (i := 5) (x := x5) hC (dX11_isBestWait_19) rfl ?_
      refine g_iload_n (i := 1) (x := x1) hC (dX11_isBestWait_21) rfl rfl ?_
      refine g_iload_n (i := 2) (x := x2) hC (dX11_isBestWait_22) rfl rfl ?_
      refine g_iload_n (i := 3) (x := x3) hC (dX11_isBestWait_23) rfl rfl ?_
      refine g_callSi ([.int x5, .int x1, .int x2, .int x3]) hC wsX11_470 (dX11_isBestWait_24) rfl (by omega) (Nat.le_of_ble_eq_true rfl) (cX11_restsGain_ok (by omega) x5 x1 x2 x3 M (K := fun r => r = fX11_restsGain x5 x1 x2 x3) rfl) (fun r N q => ?_)
      obtain ⟨rfl, rfl⟩ := q
      refine g_iload (i := 4) (x := x4) hC (dX11_isBestWait_27) rfl ?_
      refine g_icmp_le (tgt := 34) hC (dX11_isBestWait_29) (by decide) (fun c29 => ?_) (fun c29 => ?_)
      · have h := wpO_t c29 h
        refine g_iinc (x := x5) (v := (x5 + 1)) (lv2 := [(5, .int (x5 + 1)), (1, .int x1), (2, .int x2), (3, .int x3), (4, .int x4)]) hC (dX11_isBestWait_34) rfl rfl (by decide) rfl ?_
        refine g_goto (tgt := 12) hC (dX11_isBestWait_37) (by decide) ?_
        refine g_sub (lv' := [(1, .int x1), (2, .int x2), (3, .int x3), (4, .int x4), (5, .int (x5 + 1))]) [1, 2, 3, 4, 0] rfl ?_
        exact ih _ h
      · have h := wpO_f c29 h
        refine g_iconst (v := 0) hC (dX11_isBestWait_32) kc_0 ?_
        refine g_zreturn hC hr (dX11_isBestWait_33) (Or.inl rfl) ?_
        exact hret _ (wpO_s h)
set_option maxHeartbeats 4000000 in
theorem cX11_isBestWait_ok {E : zE} {d : Nat} (hd : 2 ≤ d) (x0 : Int32) (x1 : Int32) (x2 : Int32) (x3 : Int32) (M : zM) {K : Int32 → Prop} (h : wpO (fX11_isBestWait x0 x1 x2 x3) K) : CMi E d yX11_isBestWait cX11_isBestWait 6 (some .boolean) [.int x0, .int x1, .int x2, .int x3] M (fun r N => M = N ∧ K r) := by
  refine CMi.of (by decide) (Nat.le_of_ble_eq_true rfl) (fun Γ hC hr => ?_)
  have hC : Cx E Γ RX11 cX11_isBestWait 6 d := hC
  show G E Γ 6 0 [(0, .int x0), (1, .int x1), (2, .int x2), (3, .int x3)] [] M
  unfold fX11_isBestWait at h
  refine g_iload_n (i := 0) (x := x0) hC (dX11_isBestWait_0) rfl rfl ?_
  refine g_iload_n (i := 1) (x := x1) hC (dX11_isBestWait_1) rfl rfl ?_
  refine g_iload_n (i := 2) (x := x2) hC (dX11_isBestWait_2) rfl rfl ?_
  refine g_iload_n (i := 3) (x := x3) hC (dX11_isBestWait_3) rfl rfl ?_
  refine g_callSi ([.int x0, .int x1, .int x2, .int x3]) hC wsX11_470 (dX11_isBestWait_4) rfl (by omega) (Nat.le_of_ble_eq_true rfl) (cX11_restsGain_ok (by omega) x0 x1 x2 x3 M (K := fun r => r = fX11_restsGain x0 x1 x2 x3) rfl) (fun r N q => ?_)
  obtain ⟨rfl, rfl⟩ := q
  refine g_nmi (fun x4_7 e_x4_7 => ?_)
  have h := wpO_n e_x4_7 h
  refine g_istore (i := 4) (lv2 := [(4, .int x4_7), (0, .int x0), (1, .int x1), (2, .int x2), (3, .int x3)]) hC (dX11_isBestWait_7) (by decide) rfl ?_
  refine g_iconst (v := 0) hC (dX11_isBestWait_9) kc_0 ?_
  refine g_istore (i := 5) (lv2 := [(5, .int 0), (4, .int x4_7), (0, .int x0), (1, .int x1), (2, .int x2), (3, .int x3)]) hC (dX11_isBestWait_10) (by decide) rfl ?_
  refine g_sub (lv' := [(1, .int x1), (2, .int x2), (3, .int x3), (4, .int x4_7), (5, .int 0)]) [3, 4, 5, 1, 0] rfl ?_
  refine wpO_bJ h (fun KL12 hKL12 h => ?_)
  refine lX11_isBestWait_12 (K1 := KL12) hC hr (by omega) x1 x2 x3 x4_7 M (fun r h => ?_) (fun _ h => ?_) _ _ h
  · have h := wpO_i (hKL12 _ h)
    exact ⟨rfl, wpO_s h⟩
  · have h := wpO_r (hKL12 _ h)
    refine g_iconst (v := 1) hC (dX11_isBestWait_40) kc_1 ?_
    refine g_zreturn hC hr (dX11_isBestWait_41) (Or.inr rfl) ?_
    exact ⟨rfl, wpO_s h⟩
/-! LostByState.rests(II)I -/
theorem dX11_rests_0 : decode cX11_rests 0 = .ok (.iload_n 1, 1) := by decide +kernel
theorem dX11_rests_1 : decode cX11_rests 1 = .ok (.ifCond .lt 18, 3) := by decide +kernel
theorem dX11_rests_4 : decode cX11_rests 4 = .ok (.iload_n 1, 1) := by decide +kernel
theorem dX11_rests_5 : decode cX11_rests 5 = .ok (.bipush 20, 2) := by decide +kernel
theorem dX11_rests_7 : decode cX11_rests 7 = .ok (.if_icmp .gt 12, 3) := by decide +kernel
theorem dX11_rests_10 : decode cX11_rests 10 = .ok (.iload_n 2, 1) := by decide +kernel
theorem dX11_rests_11 : decode cX11_rests 11 = .ok (.ifCond .lt 8, 3) := by decide +kernel
theorem dX11_rests_14 : decode cX11_rests 14 = .ok (.iload_n 2, 1) := by decide +kernel
theorem dX11_rests_15 : decode cX11_rests 15 = .ok (.iconst 5, 1) := by decide +kernel
theorem dX11_rests_16 : decode cX11_rests 16 = .ok (.if_icmp .le 5, 3) := by decide +kernel
theorem dX11_rests_19 : decode cX11_rests 19 = .ok (.iconst (-1), 1) := by decide +kernel
theorem dX11_rests_20 : decode cX11_rests 20 = .ok (.ireturn, 1) := by decide +kernel
theorem dX11_rests_21 : decode cX11_rests 21 = .ok (.aload_n 0, 1) := by decide +kernel
theorem dX11_rests_22 : decode cX11_rests 22 = .ok (.getfield 19, 3) := by decide +kernel
theorem dX11_rests_25 : decode cX11_rests 25 = .ok (.invokevirtual 230, 3) := by decide +kernel
theorem dX11_rests_28 : decode cX11_rests 28 = .ok (.iconst 0, 1) := by decide +kernel
theorem dX11_rests_29 : decode cX11_rests 29 = .ok (.istore_n 3, 1) := by decide +kernel
theorem dX11_rests_30 : decode cX11_rests 30 = .ok (.iconst 0, 1) := by decide +kernel
theorem dX11_rests_31 : decode cX11_rests 31 = .ok (.istore 4, 2) := by decide +kernel
theorem dX11_rests_33 : decode cX11_rests 33 = .ok (.iload 4, 2) := by decide +kernel
theorem dX11_rests_35 : decode cX11_rests 35 = .ok (.bipush 10, 2) := by decide +kernel
theorem dX11_rests_37 : decode cX11_rests 37 = .ok (.if_icmp .ge 79, 3) := by decide +kernel
theorem dX11_rests_40 : decode cX11_rests 40 = .ok (.iconst 0, 1) := by decide +kernel
theorem dX11_rests_41 : decode cX11_rests 41 = .ok (.istore 5, 2) := by decide +kernel
theorem dX11_rests_43 : decode cX11_rests 43 = .ok (.iload 5, 2) := by decide +kernel
theorem dX11_rests_45 : decode cX11_rests 45 = .ok (.bipush 10, 2) := by decide +kernel
theorem dX11_rests_47 : decode cX11_rests 47 = .ok (.if_icmp .ge 63, 3) := by decide +kernel
theorem dX11_rests_50 : decode cX11_rests 50 = .ok (.iload 4, 2) := by decide +kernel
theorem dX11_rests_52 : decode cX11_rests 52 = .ok (.iload 5, 2) := by decide +kernel
theorem dX11_rests_54 : decode cX11_rests 54 = .ok (.iload_n 1, 1) := by decide +kernel
theorem dX11_rests_55 : decode cX11_rests 55 = .ok (.iload_n 2, 1) := by decide +kernel
theorem dX11_rests_56 : decode cX11_rests 56 = .ok (.invokestatic 387, 3) := by decide +kernel
theorem dX11_rests_59 : decode cX11_rests 59 = .ok (.ifCond .eq 45, 3) := by decide +kernel
theorem dX11_rests_62 : decode cX11_rests 62 = .ok (.iload 5, 2) := by decide +kernel
theorem dX11_rests_64 : decode cX11_rests 64 = .ok (.iload 4, 2) := by decide +kernel
theorem dX11_rests_66 : decode cX11_rests 66 = .ok (.iload_n 1, 1) := by decide +kernel
theorem dX11_rests_67 : decode cX11_rests 67 = .ok (.iload_n 2, 1) := by decide +kernel
theorem dX11_rests_68 : decode cX11_rests 68 = .ok (.invokestatic 387, 3) := by decide +kernel
theorem dX11_rests_71 : decode cX11_rests 71 = .ok (.ifCond .ne 6, 3) := by decide +kernel
theorem dX11_rests_74 : decode cX11_rests 74 = .ok (.goto 30, 3) := by decide +kernel
theorem dX11_rests_77 : decode cX11_rests 77 = .ok (.iload_n 3, 1) := by decide +kernel
theorem dX11_rests_78 : decode cX11_rests 78 = .ok (.ifCond .ne 23, 3) := by decide +kernel
theorem dX11_rests_81 : decode cX11_rests 81 = .ok (.aload_n 0, 1) := by decide +kernel
theorem dX11_rests_82 : decode cX11_rests 82 = .ok (.getfield 19, 3) := by decide +kernel
theorem dX11_rests_85 : decode cX11_rests 85 = .ok (.iload 4, 2) := by decide +kernel
theorem dX11_rests_87 : decode cX11_rests 87 = .ok (.i2l, 1) := by decide +kernel
theorem dX11_rests_88 : decode cX11_rests 88 = .ok (.invokevirtual 233, 3) := by decide +kernel
theorem dX11_rests_91 : decode cX11_rests 91 = .ok (.aload_n 0, 1) := by decide +kernel
theorem dX11_rests_92 : decode cX11_rests 92 = .ok (.getfield 19, 3) := by decide +kernel
theorem dX11_rests_95 : decode cX11_rests 95 = .ok (.iload 5, 2) := by decide +kernel
theorem dX11_rests_97 : decode cX11_rests 97 = .ok (.i2l, 1) := by decide +kernel
theorem dX11_rests_98 : decode cX11_rests 98 = .ok (.invokevirtual 233, 3) := by decide +kernel
theorem dX11_rests_101 : decode cX11_rests 101 = .ok (.iinc 3 1, 3) := by decide +kernel
theorem dX11_rests_104 : decode cX11_rests 104 = .ok (.iinc 5 1, 3) := by decide +kernel
theorem dX11_rests_107 : decode cX11_rests 107 = .ok (.goto (-64), 3) := by decide +kernel
theorem dX11_rests_110 : decode cX11_rests 110 = .ok (.iinc 4 1, 3) := by decide +kernel
theorem dX11_rests_113 : decode cX11_rests 113 = .ok (.goto (-80), 3) := by decide +kernel
theorem dX11_rests_116 : decode cX11_rests 116 = .ok (.iload_n 3, 1) := by decide +kernel
theorem dX11_rests_117 : decode cX11_rests 117 = .ok (.ireturn, 1) := by decide +kernel
def fX11_rests_L43 (x1 : Int32) (x2 : Int32) (x4 : Int32) : Nat → Int32 → Int32 → zM → Option (Int32 × zM)
  | 0, _, _, _ => none
  | n + 1, x3, x5, M => if 10 ≤ x5 then (
    some (x3, M))
    else (
    (fX11_isBestWait x4 x5 x1 x2).bind fun (r2 : Int32) =>
    (if r2 = 0 then (
    some (x3, M))
    else (
    (fX11_isBestWait x5 x4 x1 x2).bind fun (r4 : Int32) =>
    if r4 = 0 then (
    some (x3, M))
    else (
    (if x3 = 0 then (
    (fX3_tell x4.toInt64 M).bind fun (M88 : zM) =>
    (fX3_tell x5.toInt64 M88).bind fun (M98 : zM) =>
    some M98)
    else (
    some M) : Option zM).bind fun (M_101 : zM) =>
    some (x3 + 1, M_101))) : Option (Int32 × zM)).bind fun (q : Int32 × zM) => zp q fun x3_104 M_104 =>
    fX11_rests_L43 x1 x2 x4 n x3_104 (x5 + 1) M_104)
def fX11_rests_L33 (x1 : Int32) (x2 : Int32) : Nat → Int32 → Int32 → zM → Option (Int32 × zM)
  | 0, _, _, _ => none
  | n + 1, x3, x4, M => if 10 ≤ x4 then (
    some (x3, M))
    else (
    (fX11_rests_L43 x1 x2 x4 4000 x3 0 M).bind fun (q : Int32 × zM) => zp q fun x3_110 M_110 =>
    fX11_rests_L33 x1 x2 n x3_110 (x4 + 1) M_110)
def fX11_rests (x1 : Int32) (x2 : Int32) (M : zM) : Option (Int32 × zM) := if x1 < 0 then (
  some ((-1), M))
  else (
  if 20 < x1 then (
  some ((-1), M))
  else (
  if x2 < 0 then (
  some ((-1), M))
  else (
  if x2 ≤ 5 then (
  zlet (fX3_begin M) fun (M25 : zM) =>
  (fX11_rests_L33 x1 x2 4000 0 0 M25).bind fun (q : Int32 × zM) => zp q fun x3_116 M_116 =>
  some (x3_116, M_116))
  else (
  some ((-1), M)))))
set_option maxHeartbeats 4000000 in
theorem lX11_rests_43 {E : zE} {Γ : zT} {d : Nat} {K1 : (Int32 × zM) → Prop} (hC : Cx E Γ RX11 cX11_rests 6 d) (hd : 3 ≤ d) (x1 : Int32) (x2 : Int32) (x4 : Int32) (hx : ∀ (x3_110 : Int32) (M_110 : zM), K1 (x3_110, M_110) → G E Γ 6 110 [(0, .ref 0), (1, .int x1), (2, .int x2), (3, .int x3_110), (4, .int x4)] [] M_110) :
    ∀ (n : Nat) (x3 : Int32) (x5 : Int32) (M : zM), wpO (fX11_rests_L43 x1 x2 x4 n x3 x5 M) K1 → G E Γ 6 43 [(0, .ref 0), (1, .int x1), (2, .int x2), (3, .int x3), (4, .int x4), (5, .int x5)] [] M := by
  intro n
  induction n with
  | zero =>
    intro x3 x5 M h
    exact (wpO_0 h).elim
  | succ n ih =>
    intro x3 x5 M h
    rw [fX11_rests_L43.eq_2] at h
    refine g_iload (i := 5) (x := x5) hC (dX11_rests_43) rfl ?_
    refine g_bipush (v := 10) hC (dX11_rests_45) kb_10 ?_
    refine g_icmp_ge (tgt := 110) hC (dX11_rests_47) (by decide) (fun c47 => ?_) (fun c47 => ?_)
    · have h := wpO_t c47 h
      refine g_sub (lv' := [(0, .ref 0), (1, .int x1), (2, .int x2), (3, .int x3), (4, .int x4)]) [0, 1, 2, 3, 4] rfl ?_
      exact hx _ _ (wpO_s h)
    · have h := wpO_f c47 h
      refine g_iload (i := 4) (x := x4) hC (dX11_rests_50) rfl ?_
      refine g_iload (i := 5) (x := x5) hC (dX11_rests_52) rfl ?_
      refine g_iload_n (i := 1) (x := x1) hC (dX11_rests_54) rfl rfl ?_
      refine g_iload_n (i := 2) (x := x2) hC (dX11_rests_55) rfl rfl ?_
      have h := wpO_b h
      refine g_callSi ([.int x4, .int x5, .int x1, .int x2]) hC wsX11_387 (dX11_rests_56) rfl (by omega) (Nat.le_of_ble_eq_true rfl) (cX11_isBestWait_ok (by omega) x4 x5 x1 x2 M h) (fun r2 N q => ?_)
      obtain ⟨rfl, h⟩ := q
      refine wpO_bJ h (fun KJ3 hKJ3 h => ?_)
      have hJ3 : ∀ (x3_104 : Int32) (M_104 : zM), KJ3 (x3_104, M_104) → G E Γ 6 104 [(0, .ref 0), (1, .int x1), (2, .int x2), (3, .int x3_104), (4, .int x4), (5, .int x5)] [] M_104 := by
        intro x3_104 M_104 h
        have h := hKJ3 _ h
        have h := wpO_p h
        refine g_iinc (x := x5) (v := (x5 + 1)) (lv2 := [(5, .int (x5 + 1)), (0, .ref 0), (1, .int x1), (2, .int x2), (3, .int x3_104), (4, .int x4)]) hC (dX11_rests_104) rfl rfl (by decide) rfl ?_
        refine g_goto (tgt := 43) hC (dX11_rests_107) (by decide) ?_
        refine g_sub (lv' := [(0, .ref 0), (1, .int x1), (2, .int x2), (3, .int x3_104), (4, .int x4), (5, .int (x5 + 1))]) [1, 2, 3, 4, 5, 0] rfl ?_
        exact ih _ _ _ h
      refine g_if_eq (tgt := 104) hC (dX11_rests_59) (by decide) (fun c59 => ?_) (fun c59 => ?_)
      · have h := wpO_t c59 h
        exact hJ3 _ _ (wpO_s h)
      · have h := wpO_f c59 h
        refine g_iload (i := 5) (x := x5) hC (dX11_rests_62) rfl ?_
        refine g_iload (i := 4) (x := x4) hC (dX11_rests_64) rfl ?_
        refine g_iload_n (i := 1) (x := x1) hC (dX11_rests_66) rfl rfl ?_
        refine g_iload_n (i := 2) (x := x2) hC (dX11_rests_67) rfl rfl ?_
        have h := wpO_b h
        refine g_callSi ([.int x5, .int x4, .int x1, .int x2]) hC wsX11_387 (dX11_rests_68) rfl (by omega) (Nat.le_of_ble_eq_true rfl) (cX11_isBestWait_ok (by omega) x5 x4 x1 x2 M h) (fun r4 N q => ?_)
        obtain ⟨rfl, h⟩ := q
        refine g_if_ne (tgt := 77) hC (dX11_rests_71) (by decide) (fun c71 => ?_) (fun c71 => ?_)
        · have h := wpO_f c71 h
          refine g_iload_n (i := 3) (x := x3) hC (dX11_rests_77) rfl rfl ?_
          refine wpO_bJ h (fun KJ5 hKJ5 h => ?_)
          have hJ5 : ∀ (M_101 : zM), KJ5 M_101 → G E Γ 6 101 [(0, .ref 0), (1, .int x1), (2, .int x2), (3, .int x3), (4, .int x4), (5, .int x5)] [] M_101 := by
            intro M_101 h
            have h := hKJ5 _ h
            refine g_iinc (x := x3) (v := (x3 + 1)) (lv2 := [(3, .int (x3 + 1)), (0, .ref 0), (1, .int x1), (2, .int x2), (4, .int x4), (5, .int x5)]) hC (dX11_rests_101) rfl rfl (by decide) rfl ?_
            refine g_sub (lv' := [(0, .ref 0), (1, .int x1), (2, .int x2), (3, .int (x3 + 1)), (4, .int x4), (5, .int x5)]) [1, 2, 3, 0, 4, 5] rfl ?_
            exact hJ3 _ _ (wpO_s h)
          refine g_if_ne (tgt := 101) hC (dX11_rests_78) (by decide) (fun c78 => ?_) (fun c78 => ?_)
          · have h := wpO_f c78 h
            exact hJ5 _ (wpO_s h)
          · have h := wpO_t c78 h
            refine g_aload_n (i := 0) (x := 0) hC (dX11_rests_81) rfl rfl ?_
            refine g_getR (r := 3) hC flX11_19 (dX11_rests_82) rfl rfl rfl ?_
            refine g_iload (i := 4) (x := x4) hC (dX11_rests_85) rfl ?_
            refine g_i2l hC (dX11_rests_87) ?_
            have h := wpO_b h
            refine g_callVv ([.long x4.toInt64]) hC wvX11_233 (dX11_rests_88) rfl rfl (by omega) (Nat.le_of_ble_eq_true rfl) (cX3_tell_ok (by omega) x4.toInt64 M h) (fun M88 h => ?_)
            refine g_aload_n (i := 0) (x := 0) hC (dX11_rests_91) rfl rfl ?_
            refine g_getR (r := 3) hC flX11_19 (dX11_rests_92) rfl rfl rfl ?_
            refine g_iload (i := 5) (x := x5) hC (dX11_rests_95) rfl ?_
            refine g_i2l hC (dX11_rests_97) ?_
            have h := wpO_b h
            refine g_callVv ([.long x5.toInt64]) hC wvX11_233 (dX11_rests_98) rfl rfl (by omega) (Nat.le_of_ble_eq_true rfl) (cX3_tell_ok (by omega) x5.toInt64 M88 h) (fun M98 h => ?_)
            exact hJ5 _ (wpO_s h)
        · have h := wpO_t c71 h
          refine g_goto (tgt := 104) hC (dX11_rests_74) (by decide) ?_
          exact hJ3 _ _ (wpO_s h)
set_option maxHeartbeats 4000000 in
theorem lX11_rests_33 {E : zE} {Γ : zT} {d : Nat} {K1 : (Int32 × zM) → Prop} (hC : Cx E Γ RX11 cX11_rests 6 d) (hd : 3 ≤ d) (x1 : Int32) (x2 : Int32) (hx : ∀ (x3_116 : Int32) (M_116 : zM), K1 (x3_116, M_116) → G E Γ 6 116 [(3, .int x3_116)] [] M_116) :
    ∀ (n : Nat) (x3 : Int32) (x4 : Int32) (M : zM), wpO (fX11_rests_L33 x1 x2 n x3 x4 M) K1 → G E Γ 6 33 [(0, .ref 0), (1, .int x1), (2, .int x2), (3, .int x3), (4, .int x4)] [] M := by
  intro n
  induction n with
  | zero =>
    intro x3 x4 M h
    exact (wpO_0 h).elim
  | succ n ih =>
    intro x3 x4 M h
    rw [fX11_rests_L33.eq_2] at h
    refine g_iload (i := 4) (x := x4) hC (dX11_rests_33) rfl ?_
    refine g_bipush (v := 10) hC (dX11_rests_35) kb_10 ?_
    refine g_icmp_ge (tgt := 116) hC (dX11_rests_37) (by decide) (fun c37 => ?_) (fun c37 => ?_)
    · have h := wpO_t c37 h
      refine g_sub (lv' := [(3, .int x3)]) [3] rfl ?_
      exact hx _ _ (wpO_s h)
    · have h := wpO_f c37 h
      refine g_iconst (v := 0) hC (dX11_rests_40) kc_0 ?_
      refine g_istore (i := 5) (lv2 := [(5, .int 0), (0, .ref 0), (1, .int x1), (2, .int x2), (3, .int x3), (4, .int x4)]) hC (dX11_rests_41) (by decide) rfl ?_
      refine g_sub (lv' := [(0, .ref 0), (1, .int x1), (2, .int x2), (3, .int x3), (4, .int x4), (5, .int 0)]) [1, 2, 3, 4, 5, 0] rfl ?_
      refine wpO_bJ h (fun KL43 hKL43 h => ?_)
      refine lX11_rests_43 (K1 := KL43) hC (by omega) x1 x2 x4 (fun x3_110 M_110 h => ?_) _ _ _ _ h
      have h := hKL43 _ h
      have h := wpO_p h
      refine g_iinc (x := x4) (v := (x4 + 1)) (lv2 := [(4, .int (x4 + 1)), (0, .ref 0), (1, .int x1), (2, .int x2), (3, .int x3_110)]) hC (dX11_rests_110) rfl rfl (by decide) rfl ?_
      refine g_goto (tgt := 33) hC (dX11_rests_113) (by decide) ?_
      refine g_sub (lv' := [(0, .ref 0), (1, .int x1), (2, .int x2), (3, .int x3_110), (4, .int (x4 + 1))]) [1, 2, 3, 4, 0] rfl ?_
      exact ih _ _ _ h
set_option maxHeartbeats 4000000 in
theorem cX11_rests_ok {E : zE} {d : Nat} (hd : 3 ≤ d) (x1 : Int32) (x2 : Int32) (M : zM) {K : (Int32 × zM) → Prop} (h : wpO (fX11_rests x1 x2 M) K) : CMi E d yX11_rests cX11_rests 6 (some .int) [.ref 0, .int x1, .int x2] M (fun r N => K (r, N)) := by
  refine CMi.of (by decide) (Nat.le_of_ble_eq_true rfl) (fun Γ hC hr => ?_)
  have hC : Cx E Γ RX11 cX11_rests 6 d := hC
  show G E Γ 6 0 [(0, .ref 0), (1, .int x1), (2, .int x2)] [] M
  unfold fX11_rests at h
  refine g_iload_n (i := 1) (x := x1) hC (dX11_rests_0) rfl rfl ?_
  refine g_if_lt (tgt := 19) hC (dX11_rests_1) (by decide) (fun c1 => ?_) (fun c1 => ?_)
  · have h := wpO_t c1 h
    refine g_iconst (v := (-1)) hC (dX11_rests_19) kc_m1 ?_
    refine g_ireturn hC hr (dX11_rests_20) ?_
    exact wpO_s h
  · have h := wpO_f c1 h
    refine g_iload_n (i := 1) (x := x1) hC (dX11_rests_4) rfl rfl ?_
    refine g_bipush (v := 20) hC (dX11_rests_5) kb_20 ?_
    refine g_icmp_gt (tgt := 19) hC (dX11_rests_7) (by decide) (fun c7 => ?_) (fun c7 => ?_)
    · have h := wpO_t c7 h
      refine g_iconst (v := (-1)) hC (dX11_rests_19) kc_m1 ?_
      refine g_ireturn hC hr (dX11_rests_20) ?_
      exact wpO_s h
    · have h := wpO_f c7 h
      refine g_iload_n (i := 2) (x := x2) hC (dX11_rests_10) rfl rfl ?_
      refine g_if_lt (tgt := 19) hC (dX11_rests_11) (by decide) (fun c11 => ?_) (fun c11 => ?_)
      · have h := wpO_t c11 h
        refine g_iconst (v := (-1)) hC (dX11_rests_19) kc_m1 ?_
        refine g_ireturn hC hr (dX11_rests_20) ?_
        exact wpO_s h
      · have h := wpO_f c11 h
        refine g_iload_n (i := 2) (x := x2) hC (dX11_rests_14) rfl rfl ?_
        refine g_iconst (v := 5) hC (dX11_rests_15) kc_5 ?_
        refine g_icmp_le (tgt := 21) hC (dX11_rests_16) (by decide) (fun c16 => ?_) (fun c16 => ?_)
        · have h := wpO_t c16 h
          refine g_aload_n (i := 0) (x := 0) hC (dX11_rests_21) rfl rfl ?_
          refine g_getR (r := 3) hC flX11_19 (dX11_rests_22) rfl rfl rfl ?_
          refine g_callVv ([]) hC wvX11_230 (dX11_rests_25) rfl rfl (by omega) (Nat.le_of_ble_eq_true rfl) (cX3_begin_ok (by omega) M (K := fun r => r = fX3_begin M) rfl) (fun N q => ?_)
          subst q
          refine g_nmM (fun M25 e_M25 => ?_)
          have h := wpO_n e_M25 h
          refine g_iconst (v := 0) hC (dX11_rests_28) kc_0 ?_
          refine g_istore_n (i := 3) (lv2 := [(3, .int 0), (0, .ref 0), (1, .int x1), (2, .int x2)]) hC (dX11_rests_29) rfl (by decide) rfl ?_
          refine g_iconst (v := 0) hC (dX11_rests_30) kc_0 ?_
          refine g_istore (i := 4) (lv2 := [(4, .int 0), (3, .int 0), (0, .ref 0), (1, .int x1), (2, .int x2)]) hC (dX11_rests_31) (by decide) rfl ?_
          refine g_sub (lv' := [(0, .ref 0), (1, .int x1), (2, .int x2), (3, .int 0), (4, .int 0)]) [2, 3, 4, 1, 0] rfl ?_
          refine wpO_bJ h (fun KL33 hKL33 h => ?_)
          refine lX11_rests_33 (K1 := KL33) hC (by omega) x1 x2 (fun x3_116 M_116 h => ?_) _ _ _ _ h
          have h := hKL33 _ h
          have h := wpO_p h
          refine g_iload_n (i := 3) (x := x3_116) hC (dX11_rests_116) rfl rfl ?_
          refine g_ireturn hC hr (dX11_rests_117) ?_
          exact wpO_s h
        · have h := wpO_f c16 h
          refine g_iconst (v := (-1)) hC (dX11_rests_19) kc_m1 ?_
          refine g_ireturn hC hr (dX11_rests_20) ?_
          exact wpO_s h
/-! LostByState.law()I -/
theorem dX11_law_0 : decode cX11_law 0 = .ok (.aload_n 0, 1) := by decide +kernel
theorem dX11_law_1 : decode cX11_law 1 = .ok (.invokevirtual 158, 3) := by decide +kernel
theorem dX11_law_4 : decode cX11_law 4 = .ok (.istore_n 1, 1) := by decide +kernel
theorem dX11_law_5 : decode cX11_law 5 = .ok (.iload_n 1, 1) := by decide +kernel
theorem dX11_law_6 : decode cX11_law 6 = .ok (.ifCond .lt 9, 3) := by decide +kernel
theorem dX11_law_9 : decode cX11_law 9 = .ok (.sipush (-10000), 3) := by decide +kernel
theorem dX11_law_12 : decode cX11_law 12 = .ok (.iload_n 1, 1) := by decide +kernel
theorem dX11_law_13 : decode cX11_law 13 = .ok (.isub, 1) := by decide +kernel
theorem dX11_law_14 : decode cX11_law 14 = .ok (.ireturn, 1) := by decide +kernel
theorem dX11_law_15 : decode cX11_law 15 = .ok (.aload_n 0, 1) := by decide +kernel
theorem dX11_law_16 : decode cX11_law 16 = .ok (.aload_n 0, 1) := by decide +kernel
theorem dX11_law_17 : decode cX11_law 17 = .ok (.getfield 62, 3) := by decide +kernel
theorem dX11_law_20 : decode cX11_law 20 = .ok (.invokevirtual 286, 3) := by decide +kernel
theorem dX11_law_23 : decode cX11_law 23 = .ok (.sipush 256, 3) := by decide +kernel
theorem dX11_law_26 : decode cX11_law 26 = .ok (.aload_n 0, 1) := by decide +kernel
theorem dX11_law_27 : decode cX11_law 27 = .ok (.getfield 91, 3) := by decide +kernel
theorem dX11_law_30 : decode cX11_law 30 = .ok (.iconst (-1), 1) := by decide +kernel
theorem dX11_law_31 : decode cX11_law 31 = .ok (.invokevirtual 292, 3) := by decide +kernel
theorem dX11_law_34 : decode cX11_law 34 = .ok (.isub, 1) := by decide +kernel
theorem dX11_law_35 : decode cX11_law 35 = .ok (.istore_n 2, 1) := by decide +kernel
theorem dX11_law_36 : decode cX11_law 36 = .ok (.aload_n 0, 1) := by decide +kernel
theorem dX11_law_37 : decode cX11_law 37 = .ok (.aload_n 0, 1) := by decide +kernel
theorem dX11_law_38 : decode cX11_law 38 = .ok (.getfield 58, 3) := by decide +kernel
theorem dX11_law_41 : decode cX11_law 41 = .ok (.invokevirtual 286, 3) := by decide +kernel
theorem dX11_law_44 : decode cX11_law 44 = .ok (.sipush 256, 3) := by decide +kernel
theorem dX11_law_47 : decode cX11_law 47 = .ok (.aload_n 0, 1) := by decide +kernel
theorem dX11_law_48 : decode cX11_law 48 = .ok (.getfield 91, 3) := by decide +kernel
theorem dX11_law_51 : decode cX11_law 51 = .ok (.iconst (-1), 1) := by decide +kernel
theorem dX11_law_52 : decode cX11_law 52 = .ok (.invokevirtual 292, 3) := by decide +kernel
theorem dX11_law_55 : decode cX11_law 55 = .ok (.isub, 1) := by decide +kernel
theorem dX11_law_56 : decode cX11_law 56 = .ok (.istore_n 3, 1) := by decide +kernel
theorem dX11_law_57 : decode cX11_law 57 = .ok (.aload_n 0, 1) := by decide +kernel
theorem dX11_law_58 : decode cX11_law 58 = .ok (.getfield 19, 3) := by decide +kernel
theorem dX11_law_61 : decode cX11_law 61 = .ok (.invokevirtual 230, 3) := by decide +kernel
theorem dX11_law_64 : decode cX11_law 64 = .ok (.aload_n 0, 1) := by decide +kernel
theorem dX11_law_65 : decode cX11_law 65 = .ok (.getfield 19, 3) := by decide +kernel
theorem dX11_law_68 : decode cX11_law 68 = .ok (.iload_n 2, 1) := by decide +kernel
theorem dX11_law_69 : decode cX11_law 69 = .ok (.i2l, 1) := by decide +kernel
theorem dX11_law_70 : decode cX11_law 70 = .ok (.invokevirtual 233, 3) := by decide +kernel
theorem dX11_law_73 : decode cX11_law 73 = .ok (.aload_n 0, 1) := by decide +kernel
theorem dX11_law_74 : decode cX11_law 74 = .ok (.getfield 19, 3) := by decide +kernel
theorem dX11_law_77 : decode cX11_law 77 = .ok (.iload_n 3, 1) := by decide +kernel
theorem dX11_law_78 : decode cX11_law 78 = .ok (.i2l, 1) := by decide +kernel
theorem dX11_law_79 : decode cX11_law 79 = .ok (.invokevirtual 233, 3) := by decide +kernel
theorem dX11_law_82 : decode cX11_law 82 = .ok (.iload_n 2, 1) := by decide +kernel
theorem dX11_law_83 : decode cX11_law 83 = .ok (.iload_n 3, 1) := by decide +kernel
theorem dX11_law_84 : decode cX11_law 84 = .ok (.isub, 1) := by decide +kernel
theorem dX11_law_85 : decode cX11_law 85 = .ok (.ireturn, 1) := by decide +kernel
def fX11_law  (M : zM) : Option (Int32 × zM) := (fX11_readOtherRule M).bind fun (q : Int32 × zM) => zp q fun r1 M1 =>
  if r1 < 0 then (
  (fX11_surveyBy 17 M1).bind fun (M20 : zM) =>
  (fX8_howManyGet (-1) M20).bind fun (r3 : Int32) =>
  zlet (256 - r3) fun (x2_35 : Int32) =>
  (fX11_surveyBy 13 M20).bind fun (M41 : zM) =>
  (fX8_howManyGet (-1) M41).bind fun (r5 : Int32) =>
  zlet (256 - r5) fun (x3_56 : Int32) =>
  zlet (fX3_begin M41) fun (M61 : zM) =>
  (fX3_tell x2_35.toInt64 M61).bind fun (M70 : zM) =>
  (fX3_tell x3_56.toInt64 M70).bind fun (M79 : zM) =>
  some (x2_35 - x3_56, M79))
  else (
  some ((-10000) - r1, M1))
set_option maxHeartbeats 4000000 in
theorem cX11_law_ok {E : zE} {d : Nat} (hd : 108 ≤ d)  (M : zM) {K : (Int32 × zM) → Prop} (h : wpO (fX11_law  M) K) : CMi E d yX11_law cX11_law 4 (some .int) [.ref 0] M (fun r N => K (r, N)) := by
  refine CMi.of (by decide) (Nat.le_of_ble_eq_true rfl) (fun Γ hC hr => ?_)
  have hC : Cx E Γ RX11 cX11_law 4 d := hC
  show G E Γ 4 0 [(0, .ref 0)] [] M
  unfold fX11_law at h
  refine g_aload_n (i := 0) (x := 0) hC (dX11_law_0) rfl rfl ?_
  have h := wpO_b h
  refine g_callVi ([]) hC wvX11_158 (dX11_law_1) rfl rfl (by omega) (Nat.le_of_ble_eq_true rfl) (cX11_readOtherRule_ok (by omega) M h) (fun r1 M1 h => ?_)
  have h := wpO_p h
  refine g_istore_n (i := 1) (lv2 := [(1, .int r1), (0, .ref 0)]) hC (dX11_law_4) rfl (by decide) rfl ?_
  refine g_iload_n (i := 1) (x := r1) hC (dX11_law_5) rfl rfl ?_
  refine g_if_lt (tgt := 15) hC (dX11_law_6) (by decide) (fun c6 => ?_) (fun c6 => ?_)
  · have h := wpO_t c6 h
    refine g_aload_n (i := 0) (x := 0) hC (dX11_law_15) rfl rfl ?_
    refine g_aload_n (i := 0) (x := 0) hC (dX11_law_16) rfl rfl ?_
    refine g_getR (r := 17) hC flX11_62 (dX11_law_17) rfl rfl rfl ?_
    have h := wpO_b h
    refine g_callVv ([.ref 17]) hC wvX11_286 (dX11_law_20) rfl rfl (by omega) (Nat.le_of_ble_eq_true rfl) (cX11_surveyBy_ok (by omega) 17 M1 h) (fun M20 h => ?_)
    refine g_sipush (v := 256) hC (dX11_law_23) ks_256 ?_
    refine g_aload_n (i := 0) (x := 0) hC (dX11_law_26) rfl rfl ?_
    refine g_getR (r := 30) hC flX11_91 (dX11_law_27) rfl rfl rfl ?_
    refine g_iconst (v := (-1)) hC (dX11_law_30) kc_m1 ?_
    have h := wpO_b h
    refine g_callVi ([.int (-1)]) hC wvX11_292 (dX11_law_31) rfl rfl (by omega) (Nat.le_of_ble_eq_true rfl) (cX8_howManyGet_ok (by omega) (-1) M20 h) (fun r3 N q => ?_)
    obtain ⟨rfl, h⟩ := q
    refine g_isub hC (dX11_law_34) ?_
    refine g_nmi (fun x2_35 e_x2_35 => ?_)
    have h := wpO_n e_x2_35 h
    refine g_istore_n (i := 2) (lv2 := [(2, .int x2_35), (1, .int r1), (0, .ref 0)]) hC (dX11_law_35) rfl (by decide) rfl ?_
    refine g_aload_n (i := 0) (x := 0) hC (dX11_law_36) rfl rfl ?_
    refine g_aload_n (i := 0) (x := 0) hC (dX11_law_37) rfl rfl ?_
    refine g_getR (r := 13) hC flX11_58 (dX11_law_38) rfl rfl rfl ?_
    have h := wpO_b h
    refine g_callVv ([.ref 13]) hC wvX11_286 (dX11_law_41) rfl rfl (by omega) (Nat.le_of_ble_eq_true rfl) (cX11_surveyBy_ok (by omega) 13 M20 h) (fun M41 h => ?_)
    refine g_sipush (v := 256) hC (dX11_law_44) ks_256 ?_
    refine g_aload_n (i := 0) (x := 0) hC (dX11_law_47) rfl rfl ?_
    refine g_getR (r := 30) hC flX11_91 (dX11_law_48) rfl rfl rfl ?_
    refine g_iconst (v := (-1)) hC (dX11_law_51) kc_m1 ?_
    have h := wpO_b h
    refine g_callVi ([.int (-1)]) hC wvX11_292 (dX11_law_52) rfl rfl (by omega) (Nat.le_of_ble_eq_true rfl) (cX8_howManyGet_ok (by omega) (-1) M41 h) (fun r5 N q => ?_)
    obtain ⟨rfl, h⟩ := q
    refine g_isub hC (dX11_law_55) ?_
    refine g_nmi (fun x3_56 e_x3_56 => ?_)
    have h := wpO_n e_x3_56 h
    refine g_istore_n (i := 3) (lv2 := [(3, .int x3_56), (2, .int x2_35), (1, .int r1), (0, .ref 0)]) hC (dX11_law_56) rfl (by decide) rfl ?_
    refine g_aload_n (i := 0) (x := 0) hC (dX11_law_57) rfl rfl ?_
    refine g_getR (r := 3) hC flX11_19 (dX11_law_58) rfl rfl rfl ?_
    refine g_callVv ([]) hC wvX11_230 (dX11_law_61) rfl rfl (by omega) (Nat.le_of_ble_eq_true rfl) (cX3_begin_ok (by omega) M41 (K := fun r => r = fX3_begin M41) rfl) (fun N q => ?_)
    subst q
    refine g_nmM (fun M61 e_M61 => ?_)
    have h := wpO_n e_M61 h
    refine g_aload_n (i := 0) (x := 0) hC (dX11_law_64) rfl rfl ?_
    refine g_getR (r := 3) hC flX11_19 (dX11_law_65) rfl rfl rfl ?_
    refine g_iload_n (i := 2) (x := x2_35) hC (dX11_law_68) rfl rfl ?_
    refine g_i2l hC (dX11_law_69) ?_
    have h := wpO_b h
    refine g_callVv ([.long x2_35.toInt64]) hC wvX11_233 (dX11_law_70) rfl rfl (by omega) (Nat.le_of_ble_eq_true rfl) (cX3_tell_ok (by omega) x2_35.toInt64 M61 h) (fun M70 h => ?_)
    refine g_aload_n (i := 0) (x := 0) hC (dX11_law_73) rfl rfl ?_
    refine g_getR (r := 3) hC flX11_19 (dX11_law_74) rfl rfl rfl ?_
    refine g_iload_n (i := 3) (x := x3_56) hC (dX11_law_77) rfl rfl ?_
    refine g_i2l hC (dX11_law_78) ?_
    have h := wpO_b h
    refine g_callVv ([.long x3_56.toInt64]) hC wvX11_233 (dX11_law_79) rfl rfl (by omega) (Nat.le_of_ble_eq_true rfl) (cX3_tell_ok (by omega) x3_56.toInt64 M70 h) (fun M79 h => ?_)
    refine g_iload_n (i := 2) (x := x2_35) hC (dX11_law_82) rfl rfl ?_
    refine g_iload_n (i := 3) (x := x3_56) hC (dX11_law_83) rfl rfl ?_
    refine g_isub hC (dX11_law_84) ?_
    refine g_ireturn hC hr (dX11_law_85) ?_
    exact wpO_s h
  · have h := wpO_f c6 h
    refine g_sipush (v := (-10000)) hC (dX11_law_9) ks_m10000 ?_
    refine g_iload_n (i := 1) (x := r1) hC (dX11_law_12) rfl rfl ?_
    refine g_isub hC (dX11_law_13) ?_
    refine g_ireturn hC hr (dX11_law_14) ?_
    exact wpO_s h
/-! LostByState.draw(I)I -/
theorem dX11_draw_0 : decode cX11_draw 0 = .ok (.aload_n 0, 1) := by decide +kernel
theorem dX11_draw_1 : decode cX11_draw 1 = .ok (.aload_n 0, 1) := by decide +kernel
theorem dX11_draw_2 : decode cX11_draw 2 = .ok (.getfield 106, 3) := by decide +kernel
theorem dX11_draw_5 : decode cX11_draw 5 = .ok (.ldc_w 474, 3) := by decide +kernel
theorem dX11_draw_8 : decode cX11_draw 8 = .ok (.imul, 1) := by decide +kernel
theorem dX11_draw_9 : decode cX11_draw 9 = .ok (.sipush 12345, 3) := by decide +kernel
theorem dX11_draw_12 : decode cX11_draw 12 = .ok (.iadd, 1) := by decide +kernel
theorem dX11_draw_13 : decode cX11_draw 13 = .ok (.putfield 106, 3) := by decide +kernel
theorem dX11_draw_16 : decode cX11_draw 16 = .ok (.iload_n 1, 1) := by decide +kernel
theorem dX11_draw_17 : decode cX11_draw 17 = .ok (.ifCond .le 15, 3) := by decide +kernel
theorem dX11_draw_20 : decode cX11_draw 20 = .ok (.aload_n 0, 1) := by decide +kernel
theorem dX11_draw_21 : decode cX11_draw 21 = .ok (.getfield 106, 3) := by decide +kernel
theorem dX11_draw_24 : decode cX11_draw 24 = .ok (.bipush 16, 2) := by decide +kernel
theorem dX11_draw_26 : decode cX11_draw 26 = .ok (.iushr, 1) := by decide +kernel
theorem dX11_draw_27 : decode cX11_draw 27 = .ok (.iload_n 1, 1) := by decide +kernel
theorem dX11_draw_28 : decode cX11_draw 28 = .ok (.irem, 1) := by decide +kernel
theorem dX11_draw_29 : decode cX11_draw 29 = .ok (.goto 4, 3) := by decide +kernel
theorem dX11_draw_32 : decode cX11_draw 32 = .ok (.iconst 0, 1) := by decide +kernel
theorem dX11_draw_33 : decode cX11_draw 33 = .ok (.ireturn, 1) := by decide +kernel
def fX11_draw (x1 : Int32) (M : zM) : Option (Int32 × zM) := zlet (zSI M 0 16 (((M.1 0 16) * 1103515245) + 12345)) fun (M13 : zM) =>
  if x1 ≤ 0 then (
  some (0, M13))
  else (
  if ¬ x1 = 0 then (
  some (zrem (zushr (M13.1 0 16) 16) x1, M13)) else none)
set_option maxHeartbeats 4000000 in
theorem cX11_draw_ok {E : zE} {d : Nat} (hd : 0 ≤ d) (x1 : Int32) (M : zM) {K : (Int32 × zM) → Prop} (h : wpO (fX11_draw x1 M) K) : CMi E d yX11_draw cX11_draw 2 (some .int) [.ref 0, .int x1] M (fun r N => K (r, N)) := by
  refine CMi.of (by decide) (Nat.le_of_ble_eq_true rfl) (fun Γ hC hr => ?_)
  have hC : Cx E Γ RX11 cX11_draw 2 d := hC
  show G E Γ 2 0 [(0, .ref 0), (1, .int x1)] [] M
  unfold fX11_draw at h
  refine g_aload_n (i := 0) (x := 0) hC (dX11_draw_0) rfl rfl ?_
  refine g_aload_n (i := 0) (x := 0) hC (dX11_draw_1) rfl rfl ?_
  refine g_getI hC flX11_106 (dX11_draw_2) rfl rfl ?_
  refine g_ldc_w (v := 1103515245) hC m_992 (dX11_draw_5) ?_
  refine g_imul hC (dX11_draw_8) ?_
  refine g_sipush (v := 12345) hC (dX11_draw_9) ks_12345 ?_
  refine g_iadd hC (dX11_draw_12) ?_
  refine g_putI hC fpX11_106 (dX11_draw_13) rfl rfl rfl rfl ?_
  refine g_nmM (fun M13 e_M13 => ?_)
  have h := wpO_n e_M13 h
  refine g_iload_n (i := 1) (x := x1) hC (dX11_draw_16) rfl rfl ?_
  refine g_if_le (tgt := 32) hC (dX11_draw_17) (by decide) (fun c17 => ?_) (fun c17 => ?_)
  · have h := wpO_t c17 h
    refine g_iconst (v := 0) hC (dX11_draw_32) kc_0 ?_
    refine g_ireturn hC hr (dX11_draw_33) ?_
    exact wpO_s h
  · have h := wpO_f c17 h
    refine g_aload_n (i := 0) (x := 0) hC (dX11_draw_20) rfl rfl ?_
    refine g_getI hC flX11_106 (dX11_draw_21) rfl rfl ?_
    refine g_bipush (v := 16) hC (dX11_draw_24) kb_16 ?_
    refine g_iushr hC (dX11_draw_26) ?_
    refine g_iload_n (i := 1) (x := x1) hC (dX11_draw_27) rfl rfl ?_
    obtain ⟨q1, h⟩ := wpO_g h
    refine g_irem hC (dX11_draw_28) q1 ?_
    refine g_goto (tgt := 33) hC (dX11_draw_29) (by decide) ?_
    refine g_ireturn hC hr (dX11_draw_33) ?_
    exact wpO_s h
/-! LostByState.drawnActGets()Z -/
theorem dX11_drawnActGets_0 : decode cX11_drawnActGets 0 = .ok (.aload_n 0, 1) := by decide +kernel
theorem dX11_drawnActGets_1 : decode cX11_drawnActGets 1 = .ok (.iconst 4, 1) := by decide +kernel
theorem dX11_drawnActGets_2 : decode cX11_drawnActGets 2 = .ok (.invokevirtual 475, 3) := by decide +kernel
theorem dX11_drawnActGets_5 : decode cX11_drawnActGets 5 = .ok (.istore_n 1, 1) := by decide +kernel
theorem dX11_drawnActGets_6 : decode cX11_drawnActGets 6 = .ok (.iload_n 1, 1) := by decide +kernel
theorem dX11_drawnActGets_7 : decode cX11_drawnActGets 7 = .ok (.ifCond .ne 18, 3) := by decide +kernel
theorem dX11_drawnActGets_10 : decode cX11_drawnActGets 10 = .ok (.aload_n 0, 1) := by decide +kernel
theorem dX11_drawnActGets_11 : decode cX11_drawnActGets 11 = .ok (.getfield 37, 3) := by decide +kernel
theorem dX11_drawnActGets_14 : decode cX11_drawnActGets 14 = .ok (.iconst 1, 1) := by decide +kernel
theorem dX11_drawnActGets_15 : decode cX11_drawnActGets 15 = .ok (.aload_n 0, 1) := by decide +kernel
theorem dX11_drawnActGets_16 : decode cX11_drawnActGets 16 = .ok (.getfield 110, 3) := by decide +kernel
theorem dX11_drawnActGets_19 : decode cX11_drawnActGets 19 = .ok (.invokevirtual 224, 3) := by decide +kernel
theorem dX11_drawnActGets_22 : decode cX11_drawnActGets 22 = .ok (.pop, 1) := by decide +kernel
theorem dX11_drawnActGets_23 : decode cX11_drawnActGets 23 = .ok (.iconst 0, 1) := by decide +kernel
theorem dX11_drawnActGets_24 : decode cX11_drawnActGets 24 = .ok (.ireturn, 1) := by decide +kernel
theorem dX11_drawnActGets_25 : decode cX11_drawnActGets 25 = .ok (.iload_n 1, 1) := by decide +kernel
theorem dX11_drawnActGets_26 : decode cX11_drawnActGets 26 = .ok (.iconst 3, 1) := by decide +kernel
theorem dX11_drawnActGets_27 : decode cX11_drawnActGets 27 = .ok (.if_icmp .ne 37, 3) := by decide +kernel
theorem dX11_drawnActGets_30 : decode cX11_drawnActGets 30 = .ok (.aload_n 0, 1) := by decide +kernel
theorem dX11_drawnActGets_31 : decode cX11_drawnActGets 31 = .ok (.bipush 7, 2) := by decide +kernel
theorem dX11_drawnActGets_33 : decode cX11_drawnActGets 33 = .ok (.invokevirtual 475, 3) := by decide +kernel
theorem dX11_drawnActGets_36 : decode cX11_drawnActGets 36 = .ok (.istore_n 2, 1) := by decide +kernel
theorem dX11_drawnActGets_37 : decode cX11_drawnActGets 37 = .ok (.aload_n 0, 1) := by decide +kernel
theorem dX11_drawnActGets_38 : decode cX11_drawnActGets 38 = .ok (.sipush 256, 3) := by decide +kernel
theorem dX11_drawnActGets_41 : decode cX11_drawnActGets 41 = .ok (.invokevirtual 475, 3) := by decide +kernel
theorem dX11_drawnActGets_44 : decode cX11_drawnActGets 44 = .ok (.istore_n 3, 1) := by decide +kernel
theorem dX11_drawnActGets_45 : decode cX11_drawnActGets 45 = .ok (.aload_n 0, 1) := by decide +kernel
theorem dX11_drawnActGets_46 : decode cX11_drawnActGets 46 = .ok (.aload_n 0, 1) := by decide +kernel
theorem dX11_drawnActGets_47 : decode cX11_drawnActGets 47 = .ok (.getfield 37, 3) := by decide +kernel
theorem dX11_drawnActGets_50 : decode cX11_drawnActGets 50 = .ok (.iload_n 2, 1) := by decide +kernel
theorem dX11_drawnActGets_51 : decode cX11_drawnActGets 51 = .ok (.iload_n 3, 1) := by decide +kernel
theorem dX11_drawnActGets_52 : decode cX11_drawnActGets 52 = .ok (.invokevirtual 431, 3) := by decide +kernel
theorem dX11_drawnActGets_55 : decode cX11_drawnActGets 55 = .ok (.ifCond .lt 7, 3) := by decide +kernel
theorem dX11_drawnActGets_58 : decode cX11_drawnActGets 58 = .ok (.iconst 1, 1) := by decide +kernel
theorem dX11_drawnActGets_59 : decode cX11_drawnActGets 59 = .ok (.goto 4, 3) := by decide +kernel
theorem dX11_drawnActGets_62 : decode cX11_drawnActGets 62 = .ok (.iconst 0, 1) := by decide +kernel
theorem dX11_drawnActGets_63 : decode cX11_drawnActGets 63 = .ok (.ireturn, 1) := by decide +kernel
theorem dX11_drawnActGets_64 : decode cX11_drawnActGets 64 = .ok (.aload_n 0, 1) := by decide +kernel
theorem dX11_drawnActGets_65 : decode cX11_drawnActGets 65 = .ok (.getfield 26, 3) := by decide +kernel
theorem dX11_drawnActGets_68 : decode cX11_drawnActGets 68 = .ok (.getfield 135, 3) := by decide +kernel
theorem dX11_drawnActGets_71 : decode cX11_drawnActGets 71 = .ok (.ifCond .le 41, 3) := by decide +kernel
theorem dX11_drawnActGets_74 : decode cX11_drawnActGets 74 = .ok (.iload_n 1, 1) := by decide +kernel
theorem dX11_drawnActGets_75 : decode cX11_drawnActGets 75 = .ok (.iconst 1, 1) := by decide +kernel
theorem dX11_drawnActGets_76 : decode cX11_drawnActGets 76 = .ok (.if_icmp .ne 36, 3) := by decide +kernel
theorem dX11_drawnActGets_79 : decode cX11_drawnActGets 79 = .ok (.aload_n 0, 1) := by decide +kernel
theorem dX11_drawnActGets_80 : decode cX11_drawnActGets 80 = .ok (.aload_n 0, 1) := by decide +kernel
theorem dX11_drawnActGets_81 : decode cX11_drawnActGets 81 = .ok (.getfield 26, 3) := by decide +kernel
theorem dX11_drawnActGets_84 : decode cX11_drawnActGets 84 = .ok (.getfield 135, 3) := by decide +kernel
theorem dX11_drawnActGets_87 : decode cX11_drawnActGets 87 = .ok (.invokevirtual 475, 3) := by decide +kernel
theorem dX11_drawnActGets_90 : decode cX11_drawnActGets 90 = .ok (.istore_n 2, 1) := by decide +kernel
theorem dX11_drawnActGets_91 : decode cX11_drawnActGets 91 = .ok (.aload_n 0, 1) := by decide +kernel
theorem dX11_drawnActGets_92 : decode cX11_drawnActGets 92 = .ok (.aload_n 0, 1) := by decide +kernel
theorem dX11_drawnActGets_93 : decode cX11_drawnActGets 93 = .ok (.getfield 37, 3) := by decide +kernel
theorem dX11_drawnActGets_96 : decode cX11_drawnActGets 96 = .ok (.bipush 108, 2) := by decide +kernel
theorem dX11_drawnActGets_98 : decode cX11_drawnActGets 98 = .ok (.iload_n 2, 1) := by decide +kernel
theorem dX11_drawnActGets_99 : decode cX11_drawnActGets 99 = .ok (.aload_n 0, 1) := by decide +kernel
theorem dX11_drawnActGets_100 : decode cX11_drawnActGets 100 = .ok (.bipush 6, 2) := by decide +kernel
theorem dX11_drawnActGets_102 : decode cX11_drawnActGets 102 = .ok (.invokevirtual 475, 3) := by decide +kernel
theorem dX11_drawnActGets_105 : decode cX11_drawnActGets 105 = .ok (.invokevirtual 260, 3) := by decide +kernel
theorem dX11_drawnActGets_108 : decode cX11_drawnActGets 108 = .ok (.pop, 1) := by decide +kernel
theorem dX11_drawnActGets_109 : decode cX11_drawnActGets 109 = .ok (.goto 43, 3) := by decide +kernel
theorem dX11_drawnActGets_112 : decode cX11_drawnActGets 112 = .ok (.aload_n 0, 1) := by decide +kernel
theorem dX11_drawnActGets_113 : decode cX11_drawnActGets 113 = .ok (.getfield 26, 3) := by decide +kernel
theorem dX11_drawnActGets_116 : decode cX11_drawnActGets 116 = .ok (.getfield 135, 3) := by decide +kernel
theorem dX11_drawnActGets_119 : decode cX11_drawnActGets 119 = .ok (.ifCond .le 33, 3) := by decide +kernel
theorem dX11_drawnActGets_122 : decode cX11_drawnActGets 122 = .ok (.aload_n 0, 1) := by decide +kernel
theorem dX11_drawnActGets_123 : decode cX11_drawnActGets 123 = .ok (.bipush 6, 2) := by decide +kernel
theorem dX11_drawnActGets_125 : decode cX11_drawnActGets 125 = .ok (.invokevirtual 475, 3) := by decide +kernel
theorem dX11_drawnActGets_128 : decode cX11_drawnActGets 128 = .ok (.istore_n 2, 1) := by decide +kernel
theorem dX11_drawnActGets_129 : decode cX11_drawnActGets 129 = .ok (.aload_n 0, 1) := by decide +kernel
theorem dX11_drawnActGets_130 : decode cX11_drawnActGets 130 = .ok (.aload_n 0, 1) := by decide +kernel
theorem dX11_drawnActGets_131 : decode cX11_drawnActGets 131 = .ok (.getfield 37, 3) := by decide +kernel
theorem dX11_drawnActGets_134 : decode cX11_drawnActGets 134 = .ok (.bipush 102, 2) := by decide +kernel
theorem dX11_drawnActGets_136 : decode cX11_drawnActGets 136 = .ok (.iload_n 2, 1) := by decide +kernel
theorem dX11_drawnActGets_137 : decode cX11_drawnActGets 137 = .ok (.aload_n 0, 1) := by decide +kernel
theorem dX11_drawnActGets_138 : decode cX11_drawnActGets 138 = .ok (.aload_n 0, 1) := by decide +kernel
theorem dX11_drawnActGets_139 : decode cX11_drawnActGets 139 = .ok (.getfield 26, 3) := by decide +kernel
theorem dX11_drawnActGets_142 : decode cX11_drawnActGets 142 = .ok (.getfield 135, 3) := by decide +kernel
theorem dX11_drawnActGets_145 : decode cX11_drawnActGets 145 = .ok (.invokevirtual 475, 3) := by decide +kernel
theorem dX11_drawnActGets_148 : decode cX11_drawnActGets 148 = .ok (.invokevirtual 260, 3) := by decide +kernel
theorem dX11_drawnActGets_151 : decode cX11_drawnActGets 151 = .ok (.pop, 1) := by decide +kernel
theorem dX11_drawnActGets_152 : decode cX11_drawnActGets 152 = .ok (.iconst 0, 1) := by decide +kernel
theorem dX11_drawnActGets_153 : decode cX11_drawnActGets 153 = .ok (.ireturn, 1) := by decide +kernel
def fX11_drawnActGets  (M : zM) : Option (Int32 × zM) := (fX11_draw 4 M).bind fun (q : Int32 × zM) => zp q fun r1 M2 =>
  if r1 = 0 then (
  (fX10_passDays 65 1 (M2.1 0 17) M2).bind fun (q : Int32 × zM) => zp q fun r15 M19 =>
  some (0, M19))
  else (
  if r1 = 3 then (
  (fX11_draw 7 M2).bind fun (q : Int32 × zM) => zp q fun r12 M33 =>
  (fX11_draw 256 M33).bind fun (q : Int32 × zM) => zp q fun r13 M41 =>
  (fX11_handOut 65 r12 r13 M41).bind fun (q : Int32 × zM) => zp q fun r14 M52 =>
  if r14 < 0 then (
  some (0, M52))
  else (
  some (1, M52)))
  else (
  (if (M2.1 5 3) ≤ 0 then (
  if (M2.1 5 3) ≤ 0 then (
  some M2)
  else (
  (fX11_draw 6 M2).bind fun (q : Int32 × zM) => zp q fun r3 M125 =>
  (fX11_draw (M125.1 5 3) M125).bind fun (q : Int32 × zM) => zp q fun r4 M145 =>
  (fX11_perform 65 102 r3 r4 M145).bind fun (q : Int32 × zM) => zp q fun r5 M148 =>
  some M148))
  else (
  if r1 = 1 then (
  (fX11_draw (M2.1 5 3) M2).bind fun (q : Int32 × zM) => zp q fun r9 M87 =>
  (fX11_draw 6 M87).bind fun (q : Int32 × zM) => zp q fun r10 M102 =>
  (fX11_perform 65 108 r9 r10 M102).bind fun (q : Int32 × zM) => zp q fun r11 M105 =>
  some M105)
  else (
  if (M2.1 5 3) ≤ 0 then (
  some M2)
  else (
  (fX11_draw 6 M2).bind fun (q : Int32 × zM) => zp q fun r6 M125 =>
  (fX11_draw (M125.1 5 3) M125).bind fun (q : Int32 × zM) => zp q fun r7 M145 =>
  (fX11_perform 65 102 r6 r7 M145).bind fun (q : Int32 × zM) => zp q fun r8 M148 =>
  some M148))) : Option zM).bind fun (M_152 : zM) =>
  some (0, M_152)))
set_option maxHeartbeats 4000000 in
theorem cX11_drawnActGets_ok {E : zE} {d : Nat} (hd : 6 ≤ d)  (M : zM) {K : (Int32 × zM) → Prop} (h : wpO (fX11_drawnActGets  M) K) : CMi E d yX11_drawnActGets cX11_drawnActGets 4 (some .boolean) [.ref 0] M (fun r N => K (r, N)) := by
  refine CMi.of (by decide) (Nat.le_of_ble_eq_true rfl) (fun Γ hC hr => ?_)
  have hC : Cx E Γ RX11 cX11_drawnActGets 4 d := hC
  show G E Γ 4 0 [(0, .ref 0)] [] M
  unfold fX11_drawnActGets at h
  refine g_aload_n (i := 0) (x := 0) hC (dX11_drawnActGets_0) rfl rfl ?_
  refine g_iconst (v := 4) hC (dX11_drawnActGets_1) kc_4 ?_
  have h := wpO_b h
  refine g_callVi ([.int 4]) hC wvX11_475 (dX11_drawnActGets_2) rfl rfl (by omega) (Nat.le_of_ble_eq_true rfl) (cX11_draw_ok (by omega) 4 M h) (fun r1 M2 h => ?_)
  have h := wpO_p h
  refine g_istore_n (i := 1) (lv2 := [(1, .int r1), (0, .ref 0)]) hC (dX11_drawnActGets_5) rfl (by decide) rfl ?_
  refine g_iload_n (i := 1) (x := r1) hC (dX11_drawnActGets_6) rfl rfl ?_
  refine g_if_ne (tgt := 25) hC (dX11_drawnActGets_7) (by decide) (fun c7 => ?_) (fun c7 => ?_)
  · have h := wpO_f c7 h
    refine g_iload_n (i := 1) (x := r1) hC (dX11_drawnActGets_25) rfl rfl ?_
    refine g_iconst (v := 3) hC (dX11_drawnActGets_26) kc_3 ?_
    refine g_icmp_ne (tgt := 64) hC (dX11_drawnActGets_27) (by decide) (fun c27 => ?_) (fun c27 => ?_)
    · have h := wpO_f c27 h
      refine g_aload_n (i := 0) (x := 0) hC (dX11_drawnActGets_64) rfl rfl ?_
      refine g_getR (r := 5) hC flX11_26 (dX11_drawnActGets_65) rfl rfl rfl ?_
      refine g_getI hC flX11_135 (dX11_drawnActGets_68) rfl rfl ?_
      refine wpO_bJ h (fun KJ2 hKJ2 h => ?_)
      have hJ2 : ∀ (M_152 : zM), KJ2 M_152 → G E Γ 4 152 [] [] M_152 := by
        intro M_152 h
        have h := hKJ2 _ h
        refine g_iconst (v := 0) hC (dX11_drawnActGets_152) kc_0 ?_
        refine g_zreturn hC hr (dX11_drawnActGets_153) (Or.inl rfl) ?_
        exact wpO_s h
      refine g_if_le (tgt := 112) hC (dX11_drawnActGets_71) (by decide) (fun c71 => ?_) (fun c71 => ?_)
      · have h := wpO_t c71 h
        refine g_aload_n (i := 0) (x := 0) hC (dX11_drawnActGets_112) rfl rfl ?_
        refine g_getR (r := 5) hC flX11_26 (dX11_drawnActGets_113) rfl rfl rfl ?_
        refine g_getI hC flX11_135 (dX11_drawnActGets_116) rfl rfl ?_
        refine g_if_le (tgt := 152) hC (dX11_drawnActGets_119) (by decide) (fun c119 => ?_) (fun c119 => ?_)
        · have h := wpO_t c119 h
          refine g_sub (lv' := []) [] rfl ?_
          exact hJ2 _ (wpO_s h)
        · have h := wpO_f c119 h
          refine g_aload_n (i := 0) (x := 0) hC (dX11_drawnActGets_122) rfl rfl ?_
          refine g_bipush (v := 6) hC (dX11_drawnActGets_123) kb_6 ?_
          have h := wpO_b h
          refine g_callVi ([.int 6]) hC wvX11_475 (dX11_drawnActGets_125) rfl rfl (by omega) (Nat.le_of_ble_eq_true rfl) (cX11_draw_ok (by omega) 6 M2 h) (fun r3 M125 h => ?_)
          have h := wpO_p h
          refine g_istore_n (i := 2) (lv2 := [(2, .int r3), (1, .int r1), (0, .ref 0)]) hC (dX11_drawnActGets_128) rfl (by decide) rfl ?_
          refine g_aload_n (i := 0) (x := 0) hC (dX11_drawnActGets_129) rfl rfl ?_
          refine g_aload_n (i := 0) (x := 0) hC (dX11_drawnActGets_130) rfl rfl ?_
          refine g_getR (r := 65) hC flX11_37 (dX11_drawnActGets_131) rfl rfl rfl ?_
          refine g_bipush (v := 102) hC (dX11_drawnActGets_134) kb_102 ?_
          refine g_iload_n (i := 2) (x := r3) hC (dX11_drawnActGets_136) rfl rfl ?_
          refine g_aload_n (i := 0) (x := 0) hC (dX11_drawnActGets_137) rfl rfl ?_
          refine g_aload_n (i := 0) (x := 0) hC (dX11_drawnActGets_138) rfl rfl ?_
          refine g_getR (r := 5) hC flX11_26 (dX11_drawnActGets_139) rfl rfl rfl ?_
          refine g_getI hC flX11_135 (dX11_drawnActGets_142) rfl rfl ?_
          have h := wpO_b h
          refine g_callVi ([.int (M125.1 5 3)]) hC wvX11_475 (dX11_drawnActGets_145) rfl rfl (by omega) (Nat.le_of_ble_eq_true rfl) (cX11_draw_ok (by omega) (M125.1 5 3) M125 h) (fun r4 M145 h => ?_)
          have h := wpO_p h
          have h := wpO_b h
          refine g_callVi ([.ref 65, .int 102, .int r3, .int r4]) hC wvX11_260 (dX11_drawnActGets_148) rfl rfl (by omega) (Nat.le_of_ble_eq_true rfl) (cX11_perform_ok (by omega) 65 102 r3 r4 M145 h) (fun r5 M148 h => ?_)
          have h := wpO_p h
          refine g_pop hC (dX11_drawnActGets_151) rfl ?_
          refine g_sub (lv' := []) [] rfl ?_
          exact hJ2 _ (wpO_s h)
      · have h := wpO_f c71 h
        refine g_iload_n (i := 1) (x := r1) hC (dX11_drawnActGets_74) rfl rfl ?_
        refine g_iconst (v := 1) hC (dX11_drawnActGets_75) kc_1 ?_
        refine g_icmp_ne (tgt := 112) hC (dX11_drawnActGets_76) (by decide) (fun c76 => ?_) (fun c76 => ?_)
        · have h := wpO_f c76 h
          refine g_aload_n (i := 0) (x := 0) hC (dX11_drawnActGets_112) rfl rfl ?_
          refine g_getR (r := 5) hC flX11_26 (dX11_drawnActGets_113) rfl rfl rfl ?_
          refine g_getI hC flX11_135 (dX11_drawnActGets_116) rfl rfl ?_
          refine g_if_le (tgt := 152) hC (dX11_drawnActGets_119) (by decide) (fun c119 => ?_) (fun c119 => ?_)
          · have h := wpO_t c119 h
            refine g_sub (lv' := []) [] rfl ?_
            exact hJ2 _ (wpO_s h)
          · have h := wpO_f c119 h
            refine g_aload_n (i := 0) (x := 0) hC (dX11_drawnActGets_122) rfl rfl ?_
            refine g_bipush (v := 6) hC (dX11_drawnActGets_123) kb_6 ?_
            have h := wpO_b h
            refine g_callVi ([.int 6]) hC wvX11_475 (dX11_drawnActGets_125) rfl rfl (by omega) (Nat.le_of_ble_eq_true rfl) (cX11_draw_ok (by omega) 6 M2 h) (fun r6 M125 h => ?_)
            have h := wpO_p h
            refine g_istore_n (i := 2) (lv2 := [(2, .int r6), (1, .int r1), (0, .ref 0)]) hC (dX11_drawnActGets_128) rfl (by decide) rfl ?_
            refine g_aload_n (i := 0) (x := 0) hC (dX11_drawnActGets_129) rfl rfl ?_
            refine g_aload_n (i := 0) (x := 0) hC (dX11_drawnActGets_130) rfl rfl ?_
            refine g_getR (r := 65) hC flX11_37 (dX11_drawnActGets_131) rfl rfl rfl ?_
            refine g_bipush (v := 102) hC (dX11_drawnActGets_134) kb_102 ?_
            refine g_iload_n (i := 2) (x := r6) hC (dX11_drawnActGets_136) rfl rfl ?_
            refine g_aload_n (i := 0) (x := 0) hC (dX11_drawnActGets_137) rfl rfl ?_
            refine g_aload_n (i := 0) (x := 0) hC (dX11_drawnActGets_138) rfl rfl ?_
            refine g_getR (r := 5) hC flX11_26 (dX11_drawnActGets_139) rfl rfl rfl ?_
            refine g_getI hC flX11_135 (dX11_drawnActGets_142) rfl rfl ?_
            have h := wpO_b h
            refine g_callVi ([.int (M125.1 5 3)]) hC wvX11_475 (dX11_drawnActGets_145) rfl rfl (by omega) (Nat.le_of_ble_eq_true rfl) (cX11_draw_ok (by omega) (M125.1 5 3) M125 h) (fun r7 M145 h => ?_)
            have h := wpO_p h
            have h := wpO_b h
            refine g_callVi ([.ref 65, .int 102, .int r6, .int r7]) hC wvX11_260 (dX11_drawnActGets_148) rfl rfl (by omega) (Nat.le_of_ble_eq_true rfl) (cX11_perform_ok (by omega) 65 102 r6 r7 M145 h) (fun r8 M148 h => ?_)
            have h := wpO_p h
            refine g_pop hC (dX11_drawnActGets_151) rfl ?_
            refine g_sub (lv' := []) [] rfl ?_
            exact hJ2 _ (wpO_s h)
        · have h := wpO_t c76 h
          refine g_aload_n (i := 0) (x := 0) hC (dX11_drawnActGets_79) rfl rfl ?_
          refine g_aload_n (i := 0) (x := 0) hC (dX11_drawnActGets_80) rfl rfl ?_
          refine g_getR (r := 5) hC flX11_26 (dX11_drawnActGets_81) rfl rfl rfl ?_
          refine g_getI hC flX11_135 (dX11_drawnActGets_84) rfl rfl ?_
          have h := wpO_b h
          refine g_callVi ([.int (M2.1 5 3)]) hC wvX11_475 (dX11_drawnActGets_87) rfl rfl (by omega) (Nat.le_of_ble_eq_true rfl) (cX11_draw_ok (by omega) (M2.1 5 3) M2 h) (fun r9 M87 h => ?_)
          have h := wpO_p h
          refine g_istore_n (i := 2) (lv2 := [(2, .int r9), (1, .int r1), (0, .ref 0)]) hC (dX11_drawnActGets_90) rfl (by decide) rfl ?_
          refine g_aload_n (i := 0) (x := 0) hC (dX11_drawnActGets_91) rfl rfl ?_
          refine g_aload_n (i := 0) (x := 0) hC (dX11_drawnActGets_92) rfl rfl ?_
          refine g_getR (r := 65) hC flX11_37 (dX11_drawnActGets_93) rfl rfl rfl ?_
          refine g_bipush (v := 108) hC (dX11_drawnActGets_96) kb_108 ?_
          refine g_iload_n (i := 2) (x := r9) hC (dX11_drawnActGets_98) rfl rfl ?_
          refine g_aload_n (i := 0) (x := 0) hC (dX11_drawnActGets_99) rfl rfl ?_
          refine g_bipush (v := 6) hC (dX11_drawnActGets_100) kb_6 ?_
          have h := wpO_b h
          refine g_callVi ([.int 6]) hC wvX11_475 (dX11_drawnActGets_102) rfl rfl (by omega) (Nat.le_of_ble_eq_true rfl) (cX11_draw_ok (by omega) 6 M87 h) (fun r10 M102 h => ?_)
          have h := wpO_p h
          have h := wpO_b h
          refine g_callVi ([.ref 65, .int 108, .int r9, .int r10]) hC wvX11_260 (dX11_drawnActGets_105) rfl rfl (by omega) (Nat.le_of_ble_eq_true rfl) (cX11_perform_ok (by omega) 65 108 r9 r10 M102 h) (fun r11 M105 h => ?_)
          have h := wpO_p h
          refine g_pop hC (dX11_drawnActGets_108) rfl ?_
          refine g_goto (tgt := 152) hC (dX11_drawnActGets_109) (by decide) ?_
          refine g_sub (lv' := []) [] rfl ?_
          exact hJ2 _ (wpO_s h)
    · have h := wpO_t c27 h
      refine g_aload_n (i := 0) (x := 0) hC (dX11_drawnActGets_30) rfl rfl ?_
      refine g_bipush (v := 7) hC (dX11_drawnActGets_31) kb_7 ?_
      have h := wpO_b h
      refine g_callVi ([.int 7]) hC wvX11_475 (dX11_drawnActGets_33) rfl rfl (by omega) (Nat.le_of_ble_eq_true rfl) (cX11_draw_ok (by omega) 7 M2 h) (fun r12 M33 h => ?_)
      have h := wpO_p h
      refine g_istore_n (i := 2) (lv2 := [(2, .int r12), (1, .int r1), (0, .ref 0)]) hC (dX11_drawnActGets_36) rfl (by decide) rfl ?_
      refine g_aload_n (i := 0) (x := 0) hC (dX11_drawnActGets_37) rfl rfl ?_
      refine g_sipush (v := 256) hC (dX11_drawnActGets_38) ks_256 ?_
      have h := wpO_b h
      refine g_callVi ([.int 256]) hC wvX11_475 (dX11_drawnActGets_41) rfl rfl (by omega) (Nat.le_of_ble_eq_true rfl) (cX11_draw_ok (by omega) 256 M33 h) (fun r13 M41 h => ?_)
      have h := wpO_p h
      refine g_istore_n (i := 3) (lv2 := [(3, .int r13), (2, .int r12), (1, .int r1), (0, .ref 0)]) hC (dX11_drawnActGets_44) rfl (by decide) rfl ?_
      refine g_aload_n (i := 0) (x := 0) hC (dX11_drawnActGets_45) rfl rfl ?_
      refine g_aload_n (i := 0) (x := 0) hC (dX11_drawnActGets_46) rfl rfl ?_
      refine g_getR (r := 65) hC flX11_37 (dX11_drawnActGets_47) rfl rfl rfl ?_
      refine g_iload_n (i := 2) (x := r12) hC (dX11_drawnActGets_50) rfl rfl ?_
      refine g_iload_n (i := 3) (x := r13) hC (dX11_drawnActGets_51) rfl rfl ?_
      have h := wpO_b h
      refine g_callVi ([.ref 65, .int r12, .int r13]) hC wvX11_431 (dX11_drawnActGets_52) rfl rfl (by omega) (Nat.le_of_ble_eq_true rfl) (cX11_handOut_ok (by omega) 65 r12 r13 M41 h) (fun r14 M52 h => ?_)
      have h := wpO_p h
      refine g_if_lt (tgt := 62) hC (dX11_drawnActGets_55) (by decide) (fun c55 => ?_) (fun c55 => ?_)
      · have h := wpO_t c55 h
        refine g_iconst (v := 0) hC (dX11_drawnActGets_62) kc_0 ?_
        refine g_zreturn hC hr (dX11_drawnActGets_63) (Or.inl rfl) ?_
        exact wpO_s h
      · have h := wpO_f c55 h
        refine g_iconst (v := 1) hC (dX11_drawnActGets_58) kc_1 ?_
        refine g_goto (tgt := 63) hC (dX11_drawnActGets_59) (by decide) ?_
        refine g_zreturn hC hr (dX11_drawnActGets_63) (Or.inr rfl) ?_
        exact wpO_s h
  · have h := wpO_t c7 h
    refine g_aload_n (i := 0) (x := 0) hC (dX11_drawnActGets_10) rfl rfl ?_
    refine g_getR (r := 65) hC flX11_37 (dX11_drawnActGets_11) rfl rfl rfl ?_
    refine g_iconst (v := 1) hC (dX11_drawnActGets_14) kc_1 ?_
    refine g_aload_n (i := 0) (x := 0) hC (dX11_drawnActGets_15) rfl rfl ?_
    refine g_getI hC flX11_110 (dX11_drawnActGets_16) rfl rfl ?_
    have h := wpO_b h
    refine g_callVi ([.int 1, .int (M2.1 0 17)]) hC wvX11_224 (dX11_drawnActGets_19) rfl rfl (by omega) (Nat.le_of_ble_eq_true rfl) (cX10_passDays_ok (by omega) 65 1 (M2.1 0 17) M2 h) (fun r15 M19 h => ?_)
    have h := wpO_p h
    refine g_pop hC (dX11_drawnActGets_22) rfl ?_
    refine g_iconst (v := 0) hC (dX11_drawnActGets_23) kc_0 ?_
    refine g_zreturn hC hr (dX11_drawnActGets_24) (Or.inl rfl) ?_
    exact wpO_s h
/-! LostByState.years(II)I -/
theorem dX11_years_0 : decode cX11_years 0 = .ok (.iload_n 2, 1) := by decide +kernel
theorem dX11_years_1 : decode cX11_years 1 = .ok (.iconst 1, 1) := by decide +kernel
theorem dX11_years_2 : decode cX11_years 2 = .ok (.if_icmp .lt 9, 3) := by decide +kernel
theorem dX11_years_5 : decode cX11_years 5 = .ok (.iload_n 2, 1) := by decide +kernel
theorem dX11_years_6 : decode cX11_years 6 = .ok (.bipush 60, 2) := by decide +kernel
theorem dX11_years_8 : decode cX11_years 8 = .ok (.if_icmp .le 5, 3) := by decide +kernel
theorem dX11_years_11 : decode cX11_years 11 = .ok (.iconst (-1), 1) := by decide +kernel
theorem dX11_years_12 : decode cX11_years 12 = .ok (.ireturn, 1) := by decide +kernel
theorem dX11_years_13 : decode cX11_years 13 = .ok (.aload_n 0, 1) := by decide +kernel
theorem dX11_years_14 : decode cX11_years 14 = .ok (.getfield 37, 3) := by decide +kernel
theorem dX11_years_17 : decode cX11_years 17 = .ok (.aload_n 0, 1) := by decide +kernel
theorem dX11_years_18 : decode cX11_years 18 = .ok (.getfield 33, 3) := by decide +kernel
theorem dX11_years_21 : decode cX11_years 21 = .ok (.invokevirtual 322, 3) := by decide +kernel
theorem dX11_years_24 : decode cX11_years 24 = .ok (.aload_n 0, 1) := by decide +kernel
theorem dX11_years_25 : decode cX11_years 25 = .ok (.iload_n 1, 1) := by decide +kernel
theorem dX11_years_26 : decode cX11_years 26 = .ok (.putfield 106, 3) := by decide +kernel
theorem dX11_years_29 : decode cX11_years 29 = .ok (.iconst 0, 1) := by decide +kernel
theorem dX11_years_30 : decode cX11_years 30 = .ok (.istore_n 3, 1) := by decide +kernel
theorem dX11_years_31 : decode cX11_years 31 = .ok (.iconst 0, 1) := by decide +kernel
theorem dX11_years_32 : decode cX11_years 32 = .ok (.istore 4, 2) := by decide +kernel
theorem dX11_years_34 : decode cX11_years 34 = .ok (.iload 4, 2) := by decide +kernel
theorem dX11_years_36 : decode cX11_years 36 = .ok (.iload_n 2, 1) := by decide +kernel
theorem dX11_years_37 : decode cX11_years 37 = .ok (.if_icmp .ge 19, 3) := by decide +kernel
theorem dX11_years_40 : decode cX11_years 40 = .ok (.aload_n 0, 1) := by decide +kernel
theorem dX11_years_41 : decode cX11_years 41 = .ok (.invokevirtual 391, 3) := by decide +kernel
theorem dX11_years_44 : decode cX11_years 44 = .ok (.ifCond .eq 6, 3) := by decide +kernel
theorem dX11_years_47 : decode cX11_years 47 = .ok (.iinc 3 1, 3) := by decide +kernel
theorem dX11_years_50 : decode cX11_years 50 = .ok (.iinc 4 1, 3) := by decide +kernel
theorem dX11_years_53 : decode cX11_years 53 = .ok (.goto (-19), 3) := by decide +kernel
theorem dX11_years_56 : decode cX11_years 56 = .ok (.aload_n 0, 1) := by decide +kernel
theorem dX11_years_57 : decode cX11_years 57 = .ok (.getfield 19, 3) := by decide +kernel
theorem dX11_years_60 : decode cX11_years 60 = .ok (.invokevirtual 230, 3) := by decide +kernel
theorem dX11_years_63 : decode cX11_years 63 = .ok (.aload_n 0, 1) := by decide +kernel
theorem dX11_years_64 : decode cX11_years 64 = .ok (.getfield 19, 3) := by decide +kernel
theorem dX11_years_67 : decode cX11_years 67 = .ok (.aload_n 0, 1) := by decide +kernel
theorem dX11_years_68 : decode cX11_years 68 = .ok (.getfield 37, 3) := by decide +kernel
theorem dX11_years_71 : decode cX11_years 71 = .ok (.bipush 6, 2) := by decide +kernel
theorem dX11_years_73 : decode cX11_years 73 = .ok (.invokevirtual 204, 3) := by decide +kernel
theorem dX11_years_76 : decode cX11_years 76 = .ok (.i2l, 1) := by decide +kernel
theorem dX11_years_77 : decode cX11_years 77 = .ok (.invokevirtual 233, 3) := by decide +kernel
theorem dX11_years_80 : decode cX11_years 80 = .ok (.aload_n 0, 1) := by decide +kernel
theorem dX11_years_81 : decode cX11_years 81 = .ok (.getfield 19, 3) := by decide +kernel
theorem dX11_years_84 : decode cX11_years 84 = .ok (.aload_n 0, 1) := by decide +kernel
theorem dX11_years_85 : decode cX11_years 85 = .ok (.getfield 37, 3) := by decide +kernel
theorem dX11_years_88 : decode cX11_years 88 = .ok (.invokevirtual 304, 3) := by decide +kernel
theorem dX11_years_91 : decode cX11_years 91 = .ok (.i2l, 1) := by decide +kernel
theorem dX11_years_92 : decode cX11_years 92 = .ok (.invokevirtual 233, 3) := by decide +kernel
theorem dX11_years_95 : decode cX11_years 95 = .ok (.iload_n 3, 1) := by decide +kernel
theorem dX11_years_96 : decode cX11_years 96 = .ok (.ireturn, 1) := by decide +kernel
def fX11_years_L34 (x2 : Int32) : Nat → Int32 → Int32 → zM → Option (Int32 × zM)
  | 0, _, _, _ => none
  | n + 1, x3, x4, M => if x2 ≤ x4 then (
    some (x3, M))
    else (
    (fX11_drawnActGets M).bind fun (q : Int32 × zM) => zp q fun r2 M41 =>
    zlet (if r2 = 0 then (
    x3)
    else (
    (x3 + 1))) fun (x3_50 : Int32) =>
    fX11_years_L34 x2 n x3_50 (x4 + 1) M41)
def fX11_years (x1 : Int32) (x2 : Int32) (M : zM) : Option (Int32 × zM) := if x2 < 1 then (
  some ((-1), M))
  else (
  if x2 ≤ 60 then (
  (fX10_become 65 60 M).bind fun (M21 : zM) =>
  zlet (zSI M21 0 16 x1) fun (M26 : zM) =>
  (fX11_years_L34 x2 4000 0 0 M26).bind fun (q : Int32 × zM) => zp q fun x3_56 M_56 =>
  zlet (fX3_begin M_56) fun (M60 : zM) =>
  (fX10_heldBy 65 6 M60).bind fun (r5 : Int32) =>
  (fX3_tell r5.toInt64 M60).bind fun (M77 : zM) =>
  (fX10_inside 65 M77).bind fun (r7 : Int32) =>
  (fX3_tell r7.toInt64 M77).bind fun (M92 : zM) =>
  some (x3_56, M92))
  else (
  some ((-1), M)))
set_option maxHeartbeats 4000000 in
theorem lX11_years_34 {E : zE} {Γ : zT} {d : Nat} {K1 : (Int32 × zM) → Prop} (hC : Cx E Γ RX11 cX11_years 5 d) (hd : 7 ≤ d) (x2 : Int32) (hx : ∀ (x3_56 : Int32) (M_56 : zM), K1 (x3_56, M_56) → G E Γ 5 56 [(0, .ref 0), (3, .int x3_56)] [] M_56) :
    ∀ (n : Nat) (x3 : Int32) (x4 : Int32) (M : zM), wpO (fX11_years_L34 x2 n x3 x4 M) K1 → G E Γ 5 34 [(0, .ref 0), (2, .int x2), (3, .int x3), (4, .int x4)] [] M := by
  intro n
  induction n with
  | zero =>
    intro x3 x4 M h
    exact (wpO_0 h).elim
  | succ n ih =>
    intro x3 x4 M h
    rw [fX11_years_L34.eq_2] at h
    refine g_iload (i := 4) (x := x4) hC (dX11_years_34) rfl ?_
    refine g_iload_n (i := 2) (x := x2) hC (dX11_years_36) rfl rfl ?_
    refine g_icmp_ge (tgt := 56) hC (dX11_years_37) (by decide) (fun c37 => ?_) (fun c37 => ?_)
    · have h := wpO_t c37 h
      refine g_sub (lv' := [(0, .ref 0), (3, .int x3)]) [0, 2] rfl ?_
      exact hx _ _ (wpO_s h)
    · have h := wpO_f c37 h
      refine g_aload_n (i := 0) (x := 0) hC (dX11_years_40) rfl rfl ?_
      have h := wpO_b h
      refine g_callVi ([]) hC wvX11_391 (dX11_years_41) rfl rfl (by omega) (Nat.le_of_ble_eq_true rfl) (cX11_drawnActGets_ok (by omega) M h) (fun r2 M41 h => ?_)
      have h := wpO_p h
      obtain ⟨x3_50, e_x3_50, h⟩ := wpO_l h
      have hJ3 : G E Γ 5 50 [(0, .ref 0), (2, .int x2), (3, .int x3_50), (4, .int x4)] [] M41 := by
        refine g_iinc (x := x4) (v := (x4 + 1)) (lv2 := [(4, .int (x4 + 1)), (0, .ref 0), (2, .int x2), (3, .int x3_50)]) hC (dX11_years_50) rfl rfl (by decide) rfl ?_
        refine g_goto (tgt := 34) hC (dX11_years_53) (by decide) ?_
        refine g_sub (lv' := [(0, .ref 0), (2, .int x2), (3, .int x3_50), (4, .int (x4 + 1))]) [1, 2, 3, 0] rfl ?_
        exact ih _ _ _ h
      refine g_if_eq (tgt := 50) hC (dX11_years_44) (by decide) (fun c44 => ?_) (fun c44 => ?_)
      · rw [if_pos c44] at e_x3_50
        subst e_x3_50
        exact hJ3
      · rw [if_neg c44] at e_x3_50
        refine g_iinc (x := x3) (v := (x3 + 1)) (lv2 := [(3, .int (x3 + 1)), (0, .ref 0), (2, .int x2), (4, .int x4)]) hC (dX11_years_47) rfl rfl (by decide) rfl ?_
        refine g_sub (lv' := [(0, .ref 0), (2, .int x2), (3, .int (x3 + 1)), (4, .int x4)]) [1, 2, 0, 3] rfl ?_
        subst e_x3_50
        exact hJ3
set_option maxHeartbeats 4000000 in
theorem cX11_years_ok {E : zE} {d : Nat} (hd : 7 ≤ d) (x1 : Int32) (x2 : Int32) (M : zM) {K : (Int32 × zM) → Prop} (h : wpO (fX11_years x1 x2 M) K) : CMi E d yX11_years cX11_years 5 (some .int) [.ref 0, .int x1, .int x2] M (fun r N => K (r, N)) := by
  refine CMi.of (by decide) (Nat.le_of_ble_eq_true rfl) (fun Γ hC hr => ?_)
  have hC : Cx E Γ RX11 cX11_years 5 d := hC
  show G E Γ 5 0 [(0, .ref 0), (1, .int x1), (2, .int x2)] [] M
  unfold fX11_years at h
  refine g_iload_n (i := 2) (x := x2) hC (dX11_years_0) rfl rfl ?_
  refine g_iconst (v := 1) hC (dX11_years_1) kc_1 ?_
  refine g_icmp_lt (tgt := 11) hC (dX11_years_2) (by decide) (fun c2 => ?_) (fun c2 => ?_)
  · have h := wpO_t c2 h
    refine g_iconst (v := (-1)) hC (dX11_years_11) kc_m1 ?_
    refine g_ireturn hC hr (dX11_years_12) ?_
    exact wpO_s h
  · have h := wpO_f c2 h
    refine g_iload_n (i := 2) (x := x2) hC (dX11_years_5) rfl rfl ?_
    refine g_bipush (v := 60) hC (dX11_years_6) kb_60 ?_
    refine g_icmp_le (tgt := 13) hC (dX11_years_8) (by decide) (fun c8 => ?_) (fun c8 => ?_)
    · have h := wpO_t c8 h
      refine g_aload_n (i := 0) (x := 0) hC (dX11_years_13) rfl rfl ?_
      refine g_getR (r := 65) hC flX11_37 (dX11_years_14) rfl rfl rfl ?_
      refine g_aload_n (i := 0) (x := 0) hC (dX11_years_17) rfl rfl ?_
      refine g_getR (r := 60) hC flX11_33 (dX11_years_18) rfl rfl rfl ?_
      have h := wpO_b h
      refine g_callVv ([.ref 60]) hC wvX11_322 (dX11_years_21) rfl rfl (by omega) (Nat.le_of_ble_eq_true rfl) (cX10_become_ok (by omega) 65 60 M h) (fun M21 h => ?_)
      refine g_aload_n (i := 0) (x := 0) hC (dX11_years_24) rfl rfl ?_
      refine g_iload_n (i := 1) (x := x1) hC (dX11_years_25) rfl rfl ?_
      refine g_putI hC fpX11_106 (dX11_years_26) rfl rfl rfl rfl ?_
      refine g_nmM (fun M26 e_M26 => ?_)
      have h := wpO_n e_M26 h
      refine g_iconst (v := 0) hC (dX11_years_29) kc_0 ?_
      refine g_istore_n (i := 3) (lv2 := [(3, .int 0), (0, .ref 0), (1, .int x1), (2, .int x2)]) hC (dX11_years_30) rfl (by decide) rfl ?_
      refine g_iconst (v := 0) hC (dX11_years_31) kc_0 ?_
      refine g_istore (i := 4) (lv2 := [(4, .int 0), (3, .int 0), (0, .ref 0), (1, .int x1), (2, .int x2)]) hC (dX11_years_32) (by decide) rfl ?_
      refine g_sub (lv' := [(0, .ref 0), (2, .int x2), (3, .int 0), (4, .int 0)]) [2, 4, 1, 0] rfl ?_
      refine wpO_bJ h (fun KL34 hKL34 h => ?_)
      refine lX11_years_34 (K1 := KL34) hC (by omega) x2 (fun x3_56 M_56 h => ?_) _ _ _ _ h
      have h := hKL34 _ h
      have h := wpO_p h
      refine g_aload_n (i := 0) (x := 0) hC (dX11_years_56) rfl rfl ?_
      refine g_getR (r := 3) hC flX11_19 (dX11_years_57) rfl rfl rfl ?_
      refine g_callVv ([]) hC wvX11_230 (dX11_years_60) rfl rfl (by omega) (Nat.le_of_ble_eq_true rfl) (cX3_begin_ok (by omega) M_56 (K := fun r => r = fX3_begin M_56) rfl) (fun N q => ?_)
      subst q
      refine g_nmM (fun M60 e_M60 => ?_)
      have h := wpO_n e_M60 h
      refine g_aload_n (i := 0) (x := 0) hC (dX11_years_63) rfl rfl ?_
      refine g_getR (r := 3) hC flX11_19 (dX11_years_64) rfl rfl rfl ?_
      refine g_aload_n (i := 0) (x := 0) hC (dX11_years_67) rfl rfl ?_
      refine g_getR (r := 65) hC flX11_37 (dX11_years_68) rfl rfl rfl ?_
      refine g_bipush (v := 6) hC (dX11_years_71) kb_6 ?_
      have h := wpO_b h
      refine g_callVi ([.int 6]) hC wvX11_204 (dX11_years_73) rfl rfl (by omega) (Nat.le_of_ble_eq_true rfl) (cX10_heldBy_ok (by omega) 65 6 M60 h) (fun r5 N q => ?_)
      obtain ⟨rfl, h⟩ := q
      refine g_i2l hC (dX11_years_76) ?_
      have h := wpO_b h
      refine g_callVv ([.long r5.toInt64]) hC wvX11_233 (dX11_years_77) rfl rfl (by omega) (Nat.le_of_ble_eq_true rfl) (cX3_tell_ok (by omega) r5.toInt64 M60 h) (fun M77 h => ?_)
      refine g_aload_n (i := 0) (x := 0) hC (dX11_years_80) rfl rfl ?_
      refine g_getR (r := 3) hC flX11_19 (dX11_years_81) rfl rfl rfl ?_
      refine g_aload_n (i := 0) (x := 0) hC (dX11_years_84) rfl rfl ?_
      refine g_getR (r := 65) hC flX11_37 (dX11_years_85) rfl rfl rfl ?_
      have h := wpO_b h
      refine g_callVi ([]) hC wvX11_304 (dX11_years_88) rfl rfl (by omega) (Nat.le_of_ble_eq_true rfl) (cX10_inside_ok (by omega) 65 M77 h) (fun r7 N q => ?_)
      obtain ⟨rfl, h⟩ := q
      refine g_i2l hC (dX11_years_91) ?_
      have h := wpO_b h
      refine g_callVv ([.long r7.toInt64]) hC wvX11_233 (dX11_years_92) rfl rfl (by omega) (Nat.le_of_ble_eq_true rfl) (cX3_tell_ok (by omega) r7.toInt64 M77 h) (fun M92 h => ?_)
      refine g_iload_n (i := 3) (x := x3_56) hC (dX11_years_95) rfl rfl ?_
      refine g_ireturn hC hr (dX11_years_96) ?_
      exact wpO_s h
    · have h := wpO_f c8 h
      refine g_iconst (v := (-1)) hC (dX11_years_11) kc_m1 ?_
      refine g_ireturn hC hr (dX11_years_12) ?_
      exact wpO_s h
/-! LostByState.keep(I)Z -/
theorem dX11_keep_0 : decode cX11_keep 0 = .ok (.iload_n 1, 1) := by decide +kernel
theorem dX11_keep_1 : decode cX11_keep 1 = .ok (.ifCond .lt 8, 3) := by decide +kernel
theorem dX11_keep_4 : decode cX11_keep 4 = .ok (.iload_n 1, 1) := by decide +kernel
theorem dX11_keep_5 : decode cX11_keep 5 = .ok (.iconst 2, 1) := by decide +kernel
theorem dX11_keep_6 : decode cX11_keep 6 = .ok (.if_icmp .lt 5, 3) := by decide +kernel
theorem dX11_keep_9 : decode cX11_keep 9 = .ok (.iconst 0, 1) := by decide +kernel
theorem dX11_keep_10 : decode cX11_keep 10 = .ok (.ireturn, 1) := by decide +kernel
theorem dX11_keep_11 : decode cX11_keep 11 = .ok (.aload_n 0, 1) := by decide +kernel
theorem dX11_keep_12 : decode cX11_keep 12 = .ok (.getfield 47, 3) := by decide +kernel
theorem dX11_keep_15 : decode cX11_keep 15 = .ok (.iload_n 1, 1) := by decide +kernel
theorem dX11_keep_16 : decode cX11_keep 16 = .ok (.aaload, 1) := by decide +kernel
theorem dX11_keep_17 : decode cX11_keep 17 = .ok (.aload_n 0, 1) := by decide +kernel
theorem dX11_keep_18 : decode cX11_keep 18 = .ok (.getfield 33, 3) := by decide +kernel
theorem dX11_keep_21 : decode cX11_keep 21 = .ok (.invokevirtual 322, 3) := by decide +kernel
theorem dX11_keep_24 : decode cX11_keep 24 = .ok (.aload_n 0, 1) := by decide +kernel
theorem dX11_keep_25 : decode cX11_keep 25 = .ok (.getfield 51, 3) := by decide +kernel
theorem dX11_keep_28 : decode cX11_keep 28 = .ok (.iload_n 1, 1) := by decide +kernel
theorem dX11_keep_29 : decode cX11_keep 29 = .ok (.iconst 1, 1) := by decide +kernel
theorem dX11_keep_30 : decode cX11_keep 30 = .ok (.bastore, 1) := by decide +kernel
theorem dX11_keep_31 : decode cX11_keep 31 = .ok (.iconst 1, 1) := by decide +kernel
theorem dX11_keep_32 : decode cX11_keep 32 = .ok (.ireturn, 1) := by decide +kernel
def fX11_keep (x1 : Int32) (M : zM) : Option (Int32 × zM) := if x1 < 0 then (
  some (0, M))
  else (
  if x1 < 2 then (
  if zin x1 2 then (
  (fX10_become (70 + 5 * x1.toNatClampNeg) 60 M).bind fun (M21 : zM) =>
  zlet (zSI M21 12 x1.toNatClampNeg (vp_nar .boolean 1)) fun (M30 : zM) =>
  some (1, M30)) else none)
  else (
  some (0, M)))
set_option maxHeartbeats 4000000 in
theorem cX11_keep_ok {E : zE} {d : Nat} (hd : 2 ≤ d) (x1 : Int32) (M : zM) {K : (Int32 × zM) → Prop} (h : wpO (fX11_keep x1 M) K) : CMi E d yX11_keep cX11_keep 2 (some .boolean) [.ref 0, .int x1] M (fun r N => K (r, N)) := by
  refine CMi.of (by decide) (Nat.le_of_ble_eq_true rfl) (fun Γ hC hr => ?_)
  have hC : Cx E Γ RX11 cX11_keep 2 d := hC
  show G E Γ 2 0 [(0, .ref 0), (1, .int x1)] [] M
  unfold fX11_keep at h
  refine g_iload_n (i := 1) (x := x1) hC (dX11_keep_0) rfl rfl ?_
  refine g_if_lt (tgt := 9) hC (dX11_keep_1) (by decide) (fun c1 => ?_) (fun c1 => ?_)
  · have h := wpO_t c1 h
    refine g_iconst (v := 0) hC (dX11_keep_9) kc_0 ?_
    refine g_zreturn hC hr (dX11_keep_10) (Or.inl rfl) ?_
    exact wpO_s h
  · have h := wpO_f c1 h
    refine g_iload_n (i := 1) (x := x1) hC (dX11_keep_4) rfl rfl ?_
    refine g_iconst (v := 2) hC (dX11_keep_5) kc_2 ?_
    refine g_icmp_lt (tgt := 11) hC (dX11_keep_6) (by decide) (fun c6 => ?_) (fun c6 => ?_)
    · have h := wpO_t c6 h
      refine g_aload_n (i := 0) (x := 0) hC (dX11_keep_11) rfl rfl ?_
      refine g_getR (r := 11) hC flX11_47 (dX11_keep_12) rfl rfl rfl ?_
      refine g_iload_n (i := 1) (x := x1) hC (dX11_keep_15) rfl rfl ?_
      obtain ⟨q1, h⟩ := wpO_g h
      refine g_aaload (n := 2) (r := 70 + 5 * x1.toNatClampNeg) hC (dX11_keep_16) rfl q1 rfl ?_
      refine g_aload_n (i := 0) (x := 0) hC (dX11_keep_17) rfl rfl ?_
      refine g_getR (r := 60) hC flX11_33 (dX11_keep_18) rfl rfl rfl ?_
      have h := wpO_b h
      refine g_callVv ([.ref 60]) hC wvX11_322 (dX11_keep_21) (zSH_w70 q1) rfl (by omega) (Nat.le_of_ble_eq_true rfl) (cX10_become_ok (by omega) (70 + 5 * x1.toNatClampNeg) 60 M h) (fun M21 h => ?_)
      refine g_aload_n (i := 0) (x := 0) hC (dX11_keep_24) rfl rfl ?_
      refine g_getR (r := 12) hC flX11_51 (dX11_keep_25) rfl rfl rfl ?_
      refine g_iload_n (i := 1) (x := x1) hC (dX11_keep_28) rfl rfl ?_
      refine g_iconst (v := 1) hC (dX11_keep_29) kc_1 ?_
      refine g_zastore (n := 2) hC (dX11_keep_30) rfl q1 ?_
      refine g_nmM (fun M30 e_M30 => ?_)
      have h := wpO_n e_M30 h
      refine g_iconst (v := 1) hC (dX11_keep_31) kc_1 ?_
      refine g_zreturn hC hr (dX11_keep_32) (Or.inr rfl) ?_
      exact wpO_s h
    · have h := wpO_f c6 h
      refine g_iconst (v := 0) hC (dX11_keep_9) kc_0 ?_
      refine g_zreturn hC hr (dX11_keep_10) (Or.inl rfl) ?_
      exact wpO_s h
/-! LostByState.again(I)Z -/
theorem dX11_again_0 : decode cX11_again 0 = .ok (.iload_n 1, 1) := by decide +kernel
theorem dX11_again_1 : decode cX11_again 1 = .ok (.ifCond .lt 17, 3) := by decide +kernel
theorem dX11_again_4 : decode cX11_again 4 = .ok (.iload_n 1, 1) := by decide +kernel
theorem dX11_again_5 : decode cX11_again 5 = .ok (.iconst 2, 1) := by decide +kernel
theorem dX11_again_6 : decode cX11_again 6 = .ok (.if_icmp .ge 12, 3) := by decide +kernel
theorem dX11_again_9 : decode cX11_again 9 = .ok (.aload_n 0, 1) := by decide +kernel
theorem dX11_again_10 : decode cX11_again 10 = .ok (.getfield 51, 3) := by decide +kernel
theorem dX11_again_13 : decode cX11_again 13 = .ok (.iload_n 1, 1) := by decide +kernel
theorem dX11_again_14 : decode cX11_again 14 = .ok (.baload, 1) := by decide +kernel
theorem dX11_again_15 : decode cX11_again 15 = .ok (.ifCond .ne 5, 3) := by decide +kernel
theorem dX11_again_18 : decode cX11_again 18 = .ok (.iconst 0, 1) := by decide +kernel
theorem dX11_again_19 : decode cX11_again 19 = .ok (.ireturn, 1) := by decide +kernel
theorem dX11_again_20 : decode cX11_again 20 = .ok (.aload_n 0, 1) := by decide +kernel
theorem dX11_again_21 : decode cX11_again 21 = .ok (.getfield 33, 3) := by decide +kernel
theorem dX11_again_24 : decode cX11_again 24 = .ok (.aload_n 0, 1) := by decide +kernel
theorem dX11_again_25 : decode cX11_again 25 = .ok (.getfield 47, 3) := by decide +kernel
theorem dX11_again_28 : decode cX11_again 28 = .ok (.iload_n 1, 1) := by decide +kernel
theorem dX11_again_29 : decode cX11_again 29 = .ok (.aaload, 1) := by decide +kernel
theorem dX11_again_30 : decode cX11_again 30 = .ok (.invokevirtual 322, 3) := by decide +kernel
theorem dX11_again_33 : decode cX11_again 33 = .ok (.aload_n 0, 1) := by decide +kernel
theorem dX11_again_34 : decode cX11_again 34 = .ok (.getfield 43, 3) := by decide +kernel
theorem dX11_again_37 : decode cX11_again 37 = .ok (.iconst 0, 1) := by decide +kernel
theorem dX11_again_38 : decode cX11_again 38 = .ok (.putfield 268, 3) := by decide +kernel
theorem dX11_again_41 : decode cX11_again 41 = .ok (.iconst 1, 1) := by decide +kernel
theorem dX11_again_42 : decode cX11_again 42 = .ok (.ireturn, 1) := by decide +kernel
def fX11_again (x1 : Int32) (M : zM) : Option (Int32 × zM) := if x1 < 0 then (
  some (0, M))
  else (
  if 2 ≤ x1 then (
  some (0, M))
  else (
  if zin x1 2 then (
  if (M.1 12 x1.toNatClampNeg) = 0 then (
  some (0, M))
  else (
  (fX10_become 60 (70 + 5 * x1.toNatClampNeg) M).bind fun (M30 : zM) =>
  zlet (zSI M30 9 2 0) fun (M38 : zM) =>
  some (1, M38))) else none))
set_option maxHeartbeats 4000000 in
theorem cX11_again_ok {E : zE} {d : Nat} (hd : 2 ≤ d) (x1 : Int32) (M : zM) {K : (Int32 × zM) → Prop} (h : wpO (fX11_again x1 M) K) : CMi E d yX11_again cX11_again 2 (some .boolean) [.ref 0, .int x1] M (fun r N => K (r, N)) := by
  refine CMi.of (by decide) (Nat.le_of_ble_eq_true rfl) (fun Γ hC hr => ?_)
  have hC : Cx E Γ RX11 cX11_again 2 d := hC
  show G E Γ 2 0 [(0, .ref 0), (1, .int x1)] [] M
  unfold fX11_again at h
  refine g_iload_n (i := 1) (x := x1) hC (dX11_again_0) rfl rfl ?_
  refine g_if_lt (tgt := 18) hC (dX11_again_1) (by decide) (fun c1 => ?_) (fun c1 => ?_)
  · have h := wpO_t c1 h
    refine g_iconst (v := 0) hC (dX11_again_18) kc_0 ?_
    refine g_zreturn hC hr (dX11_again_19) (Or.inl rfl) ?_
    exact wpO_s h
  · have h := wpO_f c1 h
    refine g_iload_n (i := 1) (x := x1) hC (dX11_again_4) rfl rfl ?_
    refine g_iconst (v := 2) hC (dX11_again_5) kc_2 ?_
    refine g_icmp_ge (tgt := 18) hC (dX11_again_6) (by decide) (fun c6 => ?_) (fun c6 => ?_)
    · have h := wpO_t c6 h
      refine g_iconst (v := 0) hC (dX11_again_18) kc_0 ?_
      refine g_zreturn hC hr (dX11_again_19) (Or.inl rfl) ?_
      exact wpO_s h
    · have h := wpO_f c6 h
      refine g_aload_n (i := 0) (x := 0) hC (dX11_again_9) rfl rfl ?_
      refine g_getR (r := 12) hC flX11_51 (dX11_again_10) rfl rfl rfl ?_
      refine g_iload_n (i := 1) (x := x1) hC (dX11_again_13) rfl rfl ?_
      obtain ⟨q1, h⟩ := wpO_g h
      refine g_zaload (n := 2) hC (dX11_again_14) rfl q1 ?_
      refine g_if_ne (tgt := 20) hC (dX11_again_15) (by decide) (fun c15 => ?_) (fun c15 => ?_)
      · have h := wpO_f c15 h
        refine g_aload_n (i := 0) (x := 0) hC (dX11_again_20) rfl rfl ?_
        refine g_getR (r := 60) hC flX11_33 (dX11_again_21) rfl rfl rfl ?_
        refine g_aload_n (i := 0) (x := 0) hC (dX11_again_24) rfl rfl ?_
        refine g_getR (r := 11) hC flX11_47 (dX11_again_25) rfl rfl rfl ?_
        refine g_iload_n (i := 1) (x := x1) hC (dX11_again_28) rfl rfl ?_
        refine g_aaload (n := 2) (r := 70 + 5 * x1.toNatClampNeg) hC (dX11_again_29) rfl q1 rfl ?_
        have h := wpO_b h
        refine g_callVv ([.ref (70 + 5 * x1.toNatClampNeg)]) hC wvX11_322 (dX11_again_30) rfl rfl (by omega) (Nat.le_of_ble_eq_true rfl) (cX10_become_ok (by omega) 60 (70 + 5 * x1.toNatClampNeg) M h) (fun M30 h => ?_)
        refine g_aload_n (i := 0) (x := 0) hC (dX11_again_33) rfl rfl ?_
        refine g_getR (r := 9) hC flX11_43 (dX11_again_34) rfl rfl rfl ?_
        refine g_iconst (v := 0) hC (dX11_again_37) kc_0 ?_
        refine g_putI hC fpX11_268 (dX11_again_38) rfl rfl rfl rfl ?_
        refine g_nmM (fun M38 e_M38 => ?_)
        have h := wpO_n e_M38 h
        refine g_iconst (v := 1) hC (dX11_again_41) kc_1 ?_
        refine g_zreturn hC hr (dX11_again_42) (Or.inr rfl) ?_
        exact wpO_s h
      · have h := wpO_t c15 h
        refine g_iconst (v := 0) hC (dX11_again_18) kc_0 ?_
        refine g_zreturn hC hr (dX11_again_19) (Or.inl rfl) ?_
        exact wpO_s h
/-! LostByState.count(I)I -/
theorem dX11_count_0 : decode cX11_count 0 = .ok (.iload_n 1, 1) := by decide +kernel
theorem dX11_count_1 : decode cX11_count 1 = .ok (.tableswitch 170 0 12 #[67, 75, 83, 88, 96, 104, 112, 122, 130, 138, 146, 154, 162], 67) := by decide +kernel
theorem dX11_count_68 : decode cX11_count 68 = .ok (.aload_n 0, 1) := by decide +kernel
theorem dX11_count_69 : decode cX11_count 69 = .ok (.getfield 26, 3) := by decide +kernel
theorem dX11_count_72 : decode cX11_count 72 = .ok (.getfield 135, 3) := by decide +kernel
theorem dX11_count_75 : decode cX11_count 75 = .ok (.ireturn, 1) := by decide +kernel
theorem dX11_count_76 : decode cX11_count 76 = .ok (.aload_n 0, 1) := by decide +kernel
theorem dX11_count_77 : decode cX11_count 77 = .ok (.getfield 26, 3) := by decide +kernel
theorem dX11_count_80 : decode cX11_count 80 = .ok (.getfield 151, 3) := by decide +kernel
theorem dX11_count_83 : decode cX11_count 83 = .ok (.ireturn, 1) := by decide +kernel
theorem dX11_count_84 : decode cX11_count 84 = .ok (.aload_n 0, 1) := by decide +kernel
theorem dX11_count_85 : decode cX11_count 85 = .ok (.getfield 110, 3) := by decide +kernel
theorem dX11_count_88 : decode cX11_count 88 = .ok (.ireturn, 1) := by decide +kernel
theorem dX11_count_89 : decode cX11_count 89 = .ok (.bipush 100, 2) := by decide +kernel
theorem dX11_count_91 : decode cX11_count 91 = .ok (.aload_n 0, 1) := by decide +kernel
theorem dX11_count_92 : decode cX11_count 92 = .ok (.getfield 113, 3) := by decide +kernel
theorem dX11_count_95 : decode cX11_count 95 = .ok (.iadd, 1) := by decide +kernel
theorem dX11_count_96 : decode cX11_count 96 = .ok (.ireturn, 1) := by decide +kernel
theorem dX11_count_97 : decode cX11_count 97 = .ok (.aload_n 0, 1) := by decide +kernel
theorem dX11_count_98 : decode cX11_count 98 = .ok (.getfield 33, 3) := by decide +kernel
theorem dX11_count_101 : decode cX11_count 101 = .ok (.getfield 394, 3) := by decide +kernel
theorem dX11_count_104 : decode cX11_count 104 = .ok (.ireturn, 1) := by decide +kernel
theorem dX11_count_105 : decode cX11_count 105 = .ok (.aload_n 0, 1) := by decide +kernel
theorem dX11_count_106 : decode cX11_count 106 = .ok (.getfield 33, 3) := by decide +kernel
theorem dX11_count_109 : decode cX11_count 109 = .ok (.getfield 397, 3) := by decide +kernel
theorem dX11_count_112 : decode cX11_count 112 = .ok (.ireturn, 1) := by decide +kernel
theorem dX11_count_113 : decode cX11_count 113 = .ok (.aload_n 0, 1) := by decide +kernel
theorem dX11_count_114 : decode cX11_count 114 = .ok (.getfield 33, 3) := by decide +kernel
theorem dX11_count_117 : decode cX11_count 117 = .ok (.bipush 6, 2) := by decide +kernel
theorem dX11_count_119 : decode cX11_count 119 = .ok (.invokevirtual 204, 3) := by decide +kernel
theorem dX11_count_122 : decode cX11_count 122 = .ok (.ireturn, 1) := by decide +kernel
theorem dX11_count_123 : decode cX11_count 123 = .ok (.aload_n 0, 1) := by decide +kernel
theorem dX11_count_124 : decode cX11_count 124 = .ok (.getfield 33, 3) := by decide +kernel
theorem dX11_count_127 : decode cX11_count 127 = .ok (.invokevirtual 327, 3) := by decide +kernel
theorem dX11_count_130 : decode cX11_count 130 = .ok (.ireturn, 1) := by decide +kernel
theorem dX11_count_131 : decode cX11_count 131 = .ok (.aload_n 0, 1) := by decide +kernel
theorem dX11_count_132 : decode cX11_count 132 = .ok (.getfield 33, 3) := by decide +kernel
theorem dX11_count_135 : decode cX11_count 135 = .ok (.invokevirtual 304, 3) := by decide +kernel
theorem dX11_count_138 : decode cX11_count 138 = .ok (.ireturn, 1) := by decide +kernel
theorem dX11_count_139 : decode cX11_count 139 = .ok (.aload_n 0, 1) := by decide +kernel
theorem dX11_count_140 : decode cX11_count 140 = .ok (.getfield 98, 3) := by decide +kernel
theorem dX11_count_143 : decode cX11_count 143 = .ok (.getfield 330, 3) := by decide +kernel
theorem dX11_count_146 : decode cX11_count 146 = .ok (.ireturn, 1) := by decide +kernel
theorem dX11_count_147 : decode cX11_count 147 = .ok (.aload_n 0, 1) := by decide +kernel
theorem dX11_count_148 : decode cX11_count 148 = .ok (.getfield 43, 3) := by decide +kernel
theorem dX11_count_151 : decode cX11_count 151 = .ok (.getfield 268, 3) := by decide +kernel
theorem dX11_count_154 : decode cX11_count 154 = .ok (.ireturn, 1) := by decide +kernel
theorem dX11_count_155 : decode cX11_count 155 = .ok (.aload_n 0, 1) := by decide +kernel
theorem dX11_count_156 : decode cX11_count 156 = .ok (.getfield 19, 3) := by decide +kernel
theorem dX11_count_159 : decode cX11_count 159 = .ok (.getfield 400, 3) := by decide +kernel
theorem dX11_count_162 : decode cX11_count 162 = .ok (.ireturn, 1) := by decide +kernel
theorem dX11_count_163 : decode cX11_count 163 = .ok (.aload_n 0, 1) := by decide +kernel
theorem dX11_count_164 : decode cX11_count 164 = .ok (.getfield 10, 3) := by decide +kernel
theorem dX11_count_167 : decode cX11_count 167 = .ok (.getfield 401, 3) := by decide +kernel
theorem dX11_count_170 : decode cX11_count 170 = .ok (.ireturn, 1) := by decide +kernel
theorem dX11_count_171 : decode cX11_count 171 = .ok (.iconst (-1), 1) := by decide +kernel
theorem dX11_count_172 : decode cX11_count 172 = .ok (.ireturn, 1) := by decide +kernel
def fX11_count (x1 : Int32) (M : zM) : Option Int32 := if x1 = 0 then (
  some (M.1 5 3))
  else (
  if x1 = 1 then (
  some (M.1 5 4))
  else (
  if x1 = 2 then (
  some (M.1 0 17))
  else (
  if x1 = 3 then (
  some (100 + (M.1 0 18)))
  else (
  if x1 = 4 then (
  some (M.1 60 4))
  else (
  if x1 = 5 then (
  some (M.1 60 5))
  else (
  if x1 = 6 then (
  (fX10_heldBy 60 6 M).bind fun (r1 : Int32) =>
  some r1)
  else (
  if x1 = 7 then (
  (fX10_lost 60 M).bind fun (r2 : Int32) =>
  some r2)
  else (
  if x1 = 8 then (
  (fX10_inside 60 M).bind fun (r3 : Int32) =>
  some r3)
  else (
  if x1 = 9 then (
  some (M.1 34 2))
  else (
  if x1 = 10 then (
  some (M.1 9 2))
  else (
  if x1 = 11 then (
  some (M.1 3 1))
  else (
  if x1 = 12 then (
  some (M.1 1 1))
  else (
  some (-1))))))))))))))
set_option maxHeartbeats 4000000 in
theorem cX11_count_ok {E : zE} {d : Nat} (hd : 2 ≤ d) (x1 : Int32) (M : zM) {K : Int32 → Prop} (h : wpO (fX11_count x1 M) K) : CMi E d yX11_count cX11_count 2 (some .int) [.ref 0, .int x1] M (fun r N => M = N ∧ K r) := by
  refine CMi.of (by decide) (Nat.le_of_ble_eq_true rfl) (fun Γ hC hr => ?_)
  have hC : Cx E Γ RX11 cX11_count 2 d := hC
  show G E Γ 2 0 [(0, .ref 0), (1, .int x1)] [] M
  unfold fX11_count at h
  refine g_iload_n (i := 1) (x := x1) hC (dX11_count_0) rfl rfl ?_
  rcases Decidable.em (x1 = 0) with c1_0 | c1_0
  · have h := wpO_t c1_0 h
    refine g_tswIn (tgt := 68) (off := 67) hC (dX11_count_1) 0 c1_0 (by decide +kernel) (by decide +kernel) (by decide +kernel) (by decide +kernel) ?_
    refine g_aload_n (i := 0) (x := 0) hC (dX11_count_68) rfl rfl ?_
    refine g_getR (r := 5) hC flX11_26 (dX11_count_69) rfl rfl rfl ?_
    refine g_getI hC flX11_135 (dX11_count_72) rfl rfl ?_
    refine g_ireturn hC hr (dX11_count_75) ?_
    exact ⟨rfl, wpO_s h⟩
  · have h := wpO_f c1_0 h
    rcases Decidable.em (x1 = 1) with c1_1 | c1_1
    · have h := wpO_t c1_1 h
      refine g_tswIn (tgt := 76) (off := 75) hC (dX11_count_1) 1 c1_1 (by decide +kernel) (by decide +kernel) (by decide +kernel) (by decide +kernel) ?_
      refine g_aload_n (i := 0) (x := 0) hC (dX11_count_76) rfl rfl ?_
      refine g_getR (r := 5) hC flX11_26 (dX11_count_77) rfl rfl rfl ?_
      refine g_getI hC flX11_151 (dX11_count_80) rfl rfl ?_
      refine g_ireturn hC hr (dX11_count_83) ?_
      exact ⟨rfl, wpO_s h⟩
    · have h := wpO_f c1_1 h
      rcases Decidable.em (x1 = 2) with c1_2 | c1_2
      · have h := wpO_t c1_2 h
        refine g_tswIn (tgt := 84) (off := 83) hC (dX11_count_1) 2 c1_2 (by decide +kernel) (by decide +kernel) (by decide +kernel) (by decide +kernel) ?_
        refine g_aload_n (i := 0) (x := 0) hC (dX11_count_84) rfl rfl ?_
        refine g_getI hC flX11_110 (dX11_count_85) rfl rfl ?_
        refine g_ireturn hC hr (dX11_count_88) ?_
        exact ⟨rfl, wpO_s h⟩
      · have h := wpO_f c1_2 h
        rcases Decidable.em (x1 = 3) with c1_3 | c1_3
        · have h := wpO_t c1_3 h
          refine g_tswIn (tgt := 89) (off := 88) hC (dX11_count_1) 3 c1_3 (by decide +kernel) (by decide +kernel) (by decide +kernel) (by decide +kernel) ?_
          refine g_bipush (v := 100) hC (dX11_count_89) kb_100 ?_
          refine g_aload_n (i := 0) (x := 0) hC (dX11_count_91) rfl rfl ?_
          refine g_getI hC flX11_113 (dX11_count_92) rfl rfl ?_
          refine g_iadd hC (dX11_count_95) ?_
          refine g_ireturn hC hr (dX11_count_96) ?_
          exact ⟨rfl, wpO_s h⟩
        · have h := wpO_f c1_3 h
          rcases Decidable.em (x1 = 4) with c1_4 | c1_4
          · have h := wpO_t c1_4 h
            refine g_tswIn (tgt := 97) (off := 96) hC (dX11_count_1) 4 c1_4 (by decide +kernel) (by decide +kernel) (by decide +kernel) (by decide +kernel) ?_
            refine g_aload_n (i := 0) (x := 0) hC (dX11_count_97) rfl rfl ?_
            refine g_getR (r := 60) hC flX11_33 (dX11_count_98) rfl rfl rfl ?_
            refine g_getI hC flX11_394 (dX11_count_101) rfl rfl ?_
            refine g_ireturn hC hr (dX11_count_104) ?_
            exact ⟨rfl, wpO_s h⟩
          · have h := wpO_f c1_4 h
            rcases Decidable.em (x1 = 5) with c1_5 | c1_5
            · have h := wpO_t c1_5 h
              refine g_tswIn (tgt := 105) (off := 104) hC (dX11_count_1) 5 c1_5 (by decide +kernel) (by decide +kernel) (by decide +kernel) (by decide +kernel) ?_
              refine g_aload_n (i := 0) (x := 0) hC (dX11_count_105) rfl rfl ?_
              refine g_getR (r := 60) hC flX11_33 (dX11_count_106) rfl rfl rfl ?_
              refine g_getI hC flX11_397 (dX11_count_109) rfl rfl ?_
              refine g_ireturn hC hr (dX11_count_112) ?_
              exact ⟨rfl, wpO_s h⟩
            · have h := wpO_f c1_5 h
              rcases Decidable.em (x1 = 6) with c1_6 | c1_6
              · have h := wpO_t c1_6 h
                refine g_tswIn (tgt := 113) (off := 112) hC (dX11_count_1) 6 c1_6 (by decide +kernel) (by decide +kernel) (by decide +kernel) (by decide +kernel) ?_
                refine g_aload_n (i := 0) (x := 0) hC (dX11_count_113) rfl rfl ?_
                refine g_getR (r := 60) hC flX11_33 (dX11_count_114) rfl rfl rfl ?_
                refine g_bipush (v := 6) hC (dX11_count_117) kb_6 ?_
                have h := wpO_b h
                refine g_callVi ([.int 6]) hC wvX11_204 (dX11_count_119) rfl rfl (by omega) (Nat.le_of_ble_eq_true rfl) (cX10_heldBy_ok (by omega) 60 6 M h) (fun r1 N q => ?_)
                obtain ⟨rfl, h⟩ := q
                refine g_ireturn hC hr (dX11_count_122) ?_
                exact ⟨rfl, wpO_s h⟩
              · have h := wpO_f c1_6 h
                rcases Decidable.em (x1 = 7) with c1_7 | c1_7
                · have h := wpO_t c1_7 h
                  refine g_tswIn (tgt := 123) (off := 122) hC (dX11_count_1) 7 c1_7 (by decide +kernel) (by decide +kernel) (by decide +kernel) (by decide +kernel) ?_
                  refine g_aload_n (i := 0) (x := 0) hC (dX11_count_123) rfl rfl ?_
                  refine g_getR (r := 60) hC flX11_33 (dX11_count_124) rfl rfl rfl ?_
                  have h := wpO_b h
                  refine g_callVi ([]) hC wvX11_327 (dX11_count_127) rfl rfl (by omega) (Nat.le_of_ble_eq_true rfl) (cX10_lost_ok (by omega) 60 M h) (fun r2 N q => ?_)
                  obtain ⟨rfl, h⟩ := q
                  refine g_ireturn hC hr (dX11_count_130) ?_
                  exact ⟨rfl, wpO_s h⟩
                · have h := wpO_f c1_7 h
                  rcases Decidable.em (x1 = 8) with c1_8 | c1_8
                  · have h := wpO_t c1_8 h
                    refine g_tswIn (tgt := 131) (off := 130) hC (dX11_count_1) 8 c1_8 (by decide +kernel) (by decide +kernel) (by decide +kernel) (by decide +kernel) ?_
                    refine g_aload_n (i := 0) (x := 0) hC (dX11_count_131) rfl rfl ?_
                    refine g_getR (r := 60) hC flX11_33 (dX11_count_132) rfl rfl rfl ?_
                    have h := wpO_b h
                    refine g_callVi ([]) hC wvX11_304 (dX11_count_135) rfl rfl (by omega) (Nat.le_of_ble_eq_true rfl) (cX10_inside_ok (by omega) 60 M h) (fun r3 N q => ?_)
                    obtain ⟨rfl, h⟩ := q
                    refine g_ireturn hC hr (dX11_count_138) ?_
                    exact ⟨rfl, wpO_s h⟩
                  · have h := wpO_f c1_8 h
                    rcases Decidable.em (x1 = 9) with c1_9 | c1_9
                    · have h := wpO_t c1_9 h
                      refine g_tswIn (tgt := 139) (off := 138) hC (dX11_count_1) 9 c1_9 (by decide +kernel) (by decide +kernel) (by decide +kernel) (by decide +kernel) ?_
                      refine g_aload_n (i := 0) (x := 0) hC (dX11_count_139) rfl rfl ?_
                      refine g_getR (r := 34) hC flX11_98 (dX11_count_140) rfl rfl rfl ?_
                      refine g_getI hC flX11_330 (dX11_count_143) rfl rfl ?_
                      refine g_ireturn hC hr (dX11_count_146) ?_
                      exact ⟨rfl, wpO_s h⟩
                    · have h := wpO_f c1_9 h
                      rcases Decidable.em (x1 = 10) with c1_10 | c1_10
                      · have h := wpO_t c1_10 h
                        refine g_tswIn (tgt := 147) (off := 146) hC (dX11_count_1) 10 c1_10 (by decide +kernel) (by decide +kernel) (by decide +kernel) (by decide +kernel) ?_
                        refine g_aload_n (i := 0) (x := 0) hC (dX11_count_147) rfl rfl ?_
                        refine g_getR (r := 9) hC flX11_43 (dX11_count_148) rfl rfl rfl ?_
                        refine g_getI hC flX11_268 (dX11_count_151) rfl rfl ?_
                        refine g_ireturn hC hr (dX11_count_154) ?_
                        exact ⟨rfl, wpO_s h⟩
                      · have h := wpO_f c1_10 h
                        rcases Decidable.em (x1 = 11) with c1_11 | c1_11
                        · have h := wpO_t c1_11 h
                          refine g_tswIn (tgt := 155) (off := 154) hC (dX11_count_1) 11 c1_11 (by decide +kernel) (by decide +kernel) (by decide +kernel) (by decide +kernel) ?_
                          refine g_aload_n (i := 0) (x := 0) hC (dX11_count_155) rfl rfl ?_
                          refine g_getR (r := 3) hC flX11_19 (dX11_count_156) rfl rfl rfl ?_
                          refine g_getI hC flX11_400 (dX11_count_159) rfl rfl ?_
                          refine g_ireturn hC hr (dX11_count_162) ?_
                          exact ⟨rfl, wpO_s h⟩
                        · have h := wpO_f c1_11 h
                          rcases Decidable.em (x1 = 12) with c1_12 | c1_12
                          · have h := wpO_t c1_12 h
                            refine g_tswIn (tgt := 163) (off := 162) hC (dX11_count_1) 12 c1_12 (by decide +kernel) (by decide +kernel) (by decide +kernel) (by decide +kernel) ?_
                            refine g_aload_n (i := 0) (x := 0) hC (dX11_count_163) rfl rfl ?_
                            refine g_getR (r := 1) hC flX11_10 (dX11_count_164) rfl rfl rfl ?_
                            refine g_getI hC flX11_401 (dX11_count_167) rfl rfl ?_
                            refine g_ireturn hC hr (dX11_count_170) ?_
                            exact ⟨rfl, wpO_s h⟩
                          · have h := wpO_f c1_12 h
                            have zc1_0 : ¬ (x1).toInt = 0 := fun z => c1_0 (Int32.toInt_inj.mp (z.trans (by decide +kernel)))
                            have zc1_1 : ¬ (x1).toInt = 1 := fun z => c1_1 (Int32.toInt_inj.mp (z.trans (by decide +kernel)))
                            have zc1_2 : ¬ (x1).toInt = 2 := fun z => c1_2 (Int32.toInt_inj.mp (z.trans (by decide +kernel)))
                            have zc1_3 : ¬ (x1).toInt = 3 := fun z => c1_3 (Int32.toInt_inj.mp (z.trans (by decide +kernel)))
                            have zc1_4 : ¬ (x1).toInt = 4 := fun z => c1_4 (Int32.toInt_inj.mp (z.trans (by decide +kernel)))
                            have zc1_5 : ¬ (x1).toInt = 5 := fun z => c1_5 (Int32.toInt_inj.mp (z.trans (by decide +kernel)))
                            have zc1_6 : ¬ (x1).toInt = 6 := fun z => c1_6 (Int32.toInt_inj.mp (z.trans (by decide +kernel)))
                            have zc1_7 : ¬ (x1).toInt = 7 := fun z => c1_7 (Int32.toInt_inj.mp (z.trans (by decide +kernel)))
                            have zc1_8 : ¬ (x1).toInt = 8 := fun z => c1_8 (Int32.toInt_inj.mp (z.trans (by decide +kernel)))
                            have zc1_9 : ¬ (x1).toInt = 9 := fun z => c1_9 (Int32.toInt_inj.mp (z.trans (by decide +kernel)))
                            have zc1_10 : ¬ (x1).toInt = 10 := fun z => c1_10 (Int32.toInt_inj.mp (z.trans (by decide +kernel)))
                            have zc1_11 : ¬ (x1).toInt = 11 := fun z => c1_11 (Int32.toInt_inj.mp (z.trans (by decide +kernel)))
                            have zc1_12 : ¬ (x1).toInt = 12 := fun z => c1_12 (Int32.toInt_inj.mp (z.trans (by decide +kernel)))
                            refine g_tswOut (tgt := 171) hC (dX11_count_1) (by omega) (by decide +kernel) ?_
                            refine g_iconst (v := (-1)) hC (dX11_count_171) kc_m1 ?_
                            refine g_ireturn hC hr (dX11_count_172) ?_
                            exact ⟨rfl, wpO_s h⟩
/-! LostByStateModel.thrown()I -/
theorem dX12_thrown_0 : decode cX12_thrown 0 = .ok (.aload_n 0, 1) := by decide +kernel
theorem dX12_thrown_1 : decode cX12_thrown 1 = .ok (.getfield 86, 3) := by decide +kernel
theorem dX12_thrown_4 : decode cX12_thrown 4 = .ok (.ireturn, 1) := by decide +kernel
def fX12_thrown  (M : zM) : Int32 := (M.1 36 12)
set_option maxHeartbeats 4000000 in
theorem cX12_thrown_ok {E : zE} {d : Nat} (hd : 0 ≤ d)  (M : zM) {K : Int32 → Prop} (h : wpI (fX12_thrown  M) K) : CMi E d yX12_thrown cX12_thrown 1 (some .int) [.ref 36] M (fun r N => M = N ∧ K r) := by
  refine CMi.of (by decide) (Nat.le_of_ble_eq_true rfl) (fun Γ hC hr => ?_)
  have hC : Cx E Γ RX12 cX12_thrown 1 d := hC
  show G E Γ 1 0 [(0, .ref 36)] [] M
  unfold fX12_thrown at h
  refine g_aload_n (i := 0) (x := 36) hC (dX12_thrown_0) rfl rfl ?_
  refine g_getI hC flX12_86 (dX12_thrown_1) rfl rfl ?_
  refine g_ireturn hC hr (dX12_thrown_4) ?_
  exact ⟨rfl, wpI_s h⟩
/-! LostByStateModel.in(III)Z -/
theorem dX12_in_0 : decode cX12_in 0 = .ok (.iload_n 0, 1) := by decide +kernel
theorem dX12_in_1 : decode cX12_in 1 = .ok (.iload_n 1, 1) := by decide +kernel
theorem dX12_in_2 : decode cX12_in 2 = .ok (.if_icmp .lt 12, 3) := by decide +kernel
theorem dX12_in_5 : decode cX12_in 5 = .ok (.iload_n 0, 1) := by decide +kernel
theorem dX12_in_6 : decode cX12_in 6 = .ok (.iload_n 2, 1) := by decide +kernel
theorem dX12_in_7 : decode cX12_in 7 = .ok (.if_icmp .gt 7, 3) := by decide +kernel
theorem dX12_in_10 : decode cX12_in 10 = .ok (.iconst 1, 1) := by decide +kernel
theorem dX12_in_11 : decode cX12_in 11 = .ok (.goto 4, 3) := by decide +kernel
theorem dX12_in_14 : decode cX12_in 14 = .ok (.iconst 0, 1) := by decide +kernel
theorem dX12_in_15 : decode cX12_in 15 = .ok (.ireturn, 1) := by decide +kernel
def fX12_in (x0 : Int32) (x1 : Int32) (x2 : Int32) : Int32 := if x0 < x1 then (
  0)
  else (
  if x2 < x0 then (
  0)
  else (
  1))
theorem bX12_in (x0 : Int32) (x1 : Int32) (x2 : Int32) : fX12_in x0 x1 x2 = 0 ∨ fX12_in x0 x1 x2 = 1 := by
  unfold fX12_in
  try simp only [zlet, zp, zj]
  repeat' split
  all_goals first | exact Or.inl rfl | exact Or.inr rfl | (simp; done)
set_option maxHeartbeats 4000000 in
theorem cX12_in_ok {E : zE} {d : Nat} (hd : 0 ≤ d) (x0 : Int32) (x1 : Int32) (x2 : Int32) (M : zM) {K : Int32 → Prop} (h : wpI (fX12_in x0 x1 x2) K) : CMi E d yX12_in cX12_in 3 (some .boolean) [.int x0, .int x1, .int x2] M (fun r N => M = N ∧ K r) := by
  refine CMi.of (by decide) (Nat.le_of_ble_eq_true rfl) (fun Γ hC hr => ?_)
  have hC : Cx E Γ RX12 cX12_in 3 d := hC
  show G E Γ 3 0 [(0, .int x0), (1, .int x1), (2, .int x2)] [] M
  unfold fX12_in at h
  refine g_iload_n (i := 0) (x := x0) hC (dX12_in_0) rfl rfl ?_
  refine g_iload_n (i := 1) (x := x1) hC (dX12_in_1) rfl rfl ?_
  refine g_icmp_lt (tgt := 14) hC (dX12_in_2) (by decide) (fun c2 => ?_) (fun c2 => ?_)
  · have h := wpI_t c2 h
    refine g_iconst (v := 0) hC (dX12_in_14) kc_0 ?_
    refine g_zreturn hC hr (dX12_in_15) (Or.inl rfl) ?_
    exact ⟨rfl, wpI_s h⟩
  · have h := wpI_f c2 h
    refine g_iload_n (i := 0) (x := x0) hC (dX12_in_5) rfl rfl ?_
    refine g_iload_n (i := 2) (x := x2) hC (dX12_in_6) rfl rfl ?_
    refine g_icmp_gt (tgt := 14) hC (dX12_in_7) (by decide) (fun c7 => ?_) (fun c7 => ?_)
    · have h := wpI_t c7 h
      refine g_iconst (v := 0) hC (dX12_in_14) kc_0 ?_
      refine g_zreturn hC hr (dX12_in_15) (Or.inl rfl) ?_
      exact ⟨rfl, wpI_s h⟩
    · have h := wpI_f c7 h
      refine g_iconst (v := 1) hC (dX12_in_10) kc_1 ?_
      refine g_goto (tgt := 15) hC (dX12_in_11) (by decide) ?_
      refine g_zreturn hC hr (dX12_in_15) (Or.inr rfl) ?_
      exact ⟨rfl, wpI_s h⟩
/-! LostByStateModel.has(II)Z -/
theorem dX12_has_0 : decode cX12_has 0 = .ok (.iload_n 0, 1) := by decide +kernel
theorem dX12_has_1 : decode cX12_has 1 = .ok (.iload_n 1, 1) := by decide +kernel
theorem dX12_has_2 : decode cX12_has 2 = .ok (.ishr, 1) := by decide +kernel
theorem dX12_has_3 : decode cX12_has 3 = .ok (.iconst 1, 1) := by decide +kernel
theorem dX12_has_4 : decode cX12_has 4 = .ok (.iand, 1) := by decide +kernel
theorem dX12_has_5 : decode cX12_has 5 = .ok (.iconst 1, 1) := by decide +kernel
theorem dX12_has_6 : decode cX12_has 6 = .ok (.if_icmp .ne 7, 3) := by decide +kernel
theorem dX12_has_9 : decode cX12_has 9 = .ok (.iconst 1, 1) := by decide +kernel
theorem dX12_has_10 : decode cX12_has 10 = .ok (.goto 4, 3) := by decide +kernel
theorem dX12_has_13 : decode cX12_has 13 = .ok (.iconst 0, 1) := by decide +kernel
theorem dX12_has_14 : decode cX12_has 14 = .ok (.ireturn, 1) := by decide +kernel
def fX12_has (x0 : Int32) (x1 : Int32) : Int32 := if ((zshr x0 x1) &&& 1) = 1 then (
  1)
  else (
  0)
theorem bX12_has (x0 : Int32) (x1 : Int32) : fX12_has x0 x1 = 0 ∨ fX12_has x0 x1 = 1 := by
  unfold fX12_has
  try simp only [zlet, zp, zj]
  repeat' split
  all_goals first | exact Or.inl rfl | exact Or.inr rfl | (simp; done)
set_option maxHeartbeats 4000000 in
theorem cX12_has_ok {E : zE} {d : Nat} (hd : 0 ≤ d) (x0 : Int32) (x1 : Int32) (M : zM) {K : Int32 → Prop} (h : wpI (fX12_has x0 x1) K) : CMi E d yX12_has cX12_has 2 (some .boolean) [.int x0, .int x1] M (fun r N => M = N ∧ K r) := by
  refine CMi.of (by decide) (Nat.le_of_ble_eq_true rfl) (fun Γ hC hr => ?_)
  have hC : Cx E Γ RX12 cX12_has 2 d := hC
  show G E Γ 2 0 [(0, .int x0), (1, .int x1)] [] M
  unfold fX12_has at h
  refine g_iload_n (i := 0) (x := x0) hC (dX12_has_0) rfl rfl ?_
  refine g_iload_n (i := 1) (x := x1) hC (dX12_has_1) rfl rfl ?_
  refine g_ishr hC (dX12_has_2) ?_
  refine g_iconst (v := 1) hC (dX12_has_3) kc_1 ?_
  refine g_iand hC (dX12_has_4) ?_
  refine g_iconst (v := 1) hC (dX12_has_5) kc_1 ?_
  refine g_icmp_ne (tgt := 13) hC (dX12_has_6) (by decide) (fun c6 => ?_) (fun c6 => ?_)
  · have h := wpI_f c6 h
    refine g_iconst (v := 0) hC (dX12_has_13) kc_0 ?_
    refine g_zreturn hC hr (dX12_has_14) (Or.inl rfl) ?_
    exact ⟨rfl, wpI_s h⟩
  · have h := wpI_t c6 h
    refine g_iconst (v := 1) hC (dX12_has_9) kc_1 ?_
    refine g_goto (tgt := 14) hC (dX12_has_10) (by decide) ?_
    refine g_zreturn hC hr (dX12_has_14) (Or.inr rfl) ?_
    exact ⟨rfl, wpI_s h⟩
/-! LostByStateModel.lost()I -/
theorem dX12_lost_0 : decode cX12_lost 0 = .ok (.aload_n 0, 1) := by decide +kernel
theorem dX12_lost_1 : decode cX12_lost 1 = .ok (.iconst 1, 1) := by decide +kernel
theorem dX12_lost_2 : decode cX12_lost 2 = .ok (.putfield 86, 3) := by decide +kernel
theorem dX12_lost_5 : decode cX12_lost 5 = .ok (.iconst 0, 1) := by decide +kernel
theorem dX12_lost_6 : decode cX12_lost 6 = .ok (.ireturn, 1) := by decide +kernel
def fX12_lost  (M : zM) : Int32 × zM := zlet (zSI M 36 12 1) fun (M2 : zM) =>
  (0, M2)
set_option maxHeartbeats 4000000 in
theorem cX12_lost_ok {E : zE} {d : Nat} (hd : 0 ≤ d)  (M : zM) {K : (Int32 × zM) → Prop} (h : wpI (fX12_lost  M) K) : CMi E d yX12_lost cX12_lost 1 (some .int) [.ref 36] M (fun r N => K (r, N)) := by
  refine CMi.of (by decide) (Nat.le_of_ble_eq_true rfl) (fun Γ hC hr => ?_)
  have hC : Cx E Γ RX12 cX12_lost 1 d := hC
  show G E Γ 1 0 [(0, .ref 36)] [] M
  unfold fX12_lost at h
  refine g_aload_n (i := 0) (x := 36) hC (dX12_lost_0) rfl rfl ?_
  refine g_iconst (v := 1) hC (dX12_lost_1) kc_1 ?_
  refine g_putI hC fpX12_86 (dX12_lost_2) rfl rfl rfl rfl ?_
  refine g_nmM (fun M2 e_M2 => ?_)
  have h := wpI_n e_M2 h
  refine g_iconst (v := 0) hC (dX12_lost_5) kc_0 ?_
  refine g_ireturn hC hr (dX12_lost_6) ?_
  exact wpI_s h
/-! LostByStateModel.tell(J)V -/
theorem dX12_tell_0 : decode cX12_tell 0 = .ok (.aload_n 0, 1) := by decide +kernel
theorem dX12_tell_1 : decode cX12_tell 1 = .ok (.getfield 33, 3) := by decide +kernel
theorem dX12_tell_4 : decode cX12_tell 4 = .ok (.aload_n 0, 1) := by decide +kernel
theorem dX12_tell_5 : decode cX12_tell 5 = .ok (.getfield 89, 3) := by decide +kernel
theorem dX12_tell_8 : decode cX12_tell 8 = .ok (.lload_n 1, 1) := by decide +kernel
theorem dX12_tell_9 : decode cX12_tell 9 = .ok (.lastore, 1) := by decide +kernel
theorem dX12_tell_10 : decode cX12_tell 10 = .ok (.aload_n 0, 1) := by decide +kernel
theorem dX12_tell_11 : decode cX12_tell 11 = .ok (.dup, 1) := by decide +kernel
theorem dX12_tell_12 : decode cX12_tell 12 = .ok (.getfield 89, 3) := by decide +kernel
theorem dX12_tell_15 : decode cX12_tell 15 = .ok (.iconst 1, 1) := by decide +kernel
theorem dX12_tell_16 : decode cX12_tell 16 = .ok (.iadd, 1) := by decide +kernel
theorem dX12_tell_17 : decode cX12_tell 17 = .ok (.putfield 89, 3) := by decide +kernel
theorem dX12_tell_20 : decode cX12_tell 20 = .ok (.return_, 1) := by decide +kernel
def fX12_tell (x1 : Int64) (M : zM) : Option zM := if zin (M.1 36 11) 16 then (
  zlet (zSJ M 42 (M.1 36 11).toNatClampNeg x1) fun (M9 : zM) =>
  zlet (zSI M9 36 11 ((M9.1 36 11) + 1)) fun (M17 : zM) =>
  some M17) else none
set_option maxHeartbeats 4000000 in
theorem cX12_tell_ok {E : zE} {d : Nat} (hd : 0 ≤ d) (x1 : Int64) (M : zM) {K : zM → Prop} (h : wpO (fX12_tell x1 M) K) : CMv E d yX12_tell cX12_tell 3 (none) [.ref 36, .long x1] M K := by
  refine CMv.of (by decide) (Nat.le_of_ble_eq_true rfl) (fun Γ hC hr => ?_)
  have hC : Cx E Γ RX12 cX12_tell 3 d := hC
  show G E Γ 3 0 [(0, .ref 36), (1, .long x1)] [] M
  unfold fX12_tell at h
  refine g_aload_n (i := 0) (x := 36) hC (dX12_tell_0) rfl rfl ?_
  refine g_getR (r := 42) hC flX12_33 (dX12_tell_1) rfl rfl rfl ?_
  refine g_aload_n (i := 0) (x := 36) hC (dX12_tell_4) rfl rfl ?_
  refine g_getI hC flX12_89 (dX12_tell_5) rfl rfl ?_
  refine g_lload_n (i := 1) (x := x1) hC (dX12_tell_8) rfl rfl ?_
  obtain ⟨q1, h⟩ := wpO_g h
  refine g_lastore (n := 16) hC (dX12_tell_9) rfl q1 ?_
  refine g_nmM (fun M9 e_M9 => ?_)
  have h := wpO_n e_M9 h
  refine g_aload_n (i := 0) (x := 36) hC (dX12_tell_10) rfl rfl ?_
  refine g_dup hC (dX12_tell_11) rfl ?_
  refine g_getI hC flX12_89 (dX12_tell_12) rfl rfl ?_
  refine g_iconst (v := 1) hC (dX12_tell_15) kc_1 ?_
  refine g_iadd hC (dX12_tell_16) ?_
  refine g_putI hC fpX12_89 (dX12_tell_17) rfl rfl rfl rfl ?_
  refine g_nmM (fun M17 e_M17 => ?_)
  have h := wpO_n e_M17 h
  refine g_vreturn hC hr (dX12_tell_20) ?_
  exact wpO_s h
/-! LostByStateModel.isThing(I)Z -/
theorem dX12_isThing_0 : decode cX12_isThing 0 = .ok (.iload_n 1, 1) := by decide +kernel
theorem dX12_isThing_1 : decode cX12_isThing 1 = .ok (.iconst 0, 1) := by decide +kernel
theorem dX12_isThing_2 : decode cX12_isThing 2 = .ok (.aload_n 0, 1) := by decide +kernel
theorem dX12_isThing_3 : decode cX12_isThing 3 = .ok (.getfield 92, 3) := by decide +kernel
theorem dX12_isThing_6 : decode cX12_isThing 6 = .ok (.iconst 1, 1) := by decide +kernel
theorem dX12_isThing_7 : decode cX12_isThing 7 = .ok (.isub, 1) := by decide +kernel
theorem dX12_isThing_8 : decode cX12_isThing 8 = .ok (.invokestatic 95, 3) := by decide +kernel
theorem dX12_isThing_11 : decode cX12_isThing 11 = .ok (.ireturn, 1) := by decide +kernel
def fX12_isThing (x1 : Int32) (M : zM) : Int32 := (fX12_in x1 0 ((M.1 36 1) - 1))
theorem bX12_isThing (x1 : Int32) (M : zM) : fX12_isThing x1 M = 0 ∨ fX12_isThing x1 M = 1 := by
  unfold fX12_isThing
  try simp only [zlet, zp, zj]
  repeat' split
  all_goals first | exact Or.inl rfl | exact Or.inr rfl | (simp; done) | apply bX12_in
set_option maxHeartbeats 4000000 in
theorem cX12_isThing_ok {E : zE} {d : Nat} (hd : 1 ≤ d) (x1 : Int32) (M : zM) {K : Int32 → Prop} (h : wpI (fX12_isThing x1 M) K) : CMi E d yX12_isThing cX12_isThing 2 (some .boolean) [.ref 36, .int x1] M (fun r N => M = N ∧ K r) := by
  refine CMi.of (by decide) (Nat.le_of_ble_eq_true rfl) (fun Γ hC hr => ?_)
  have hC : Cx E Γ RX12 cX12_isThing 2 d := hC
  show G E Γ 2 0 [(0, .ref 36), (1, .int x1)] [] M
  unfold fX12_isThing at h
  refine g_iload_n (i := 1) (x := x1) hC (dX12_isThing_0) rfl rfl ?_
  refine g_iconst (v := 0) hC (dX12_isThing_1) kc_0 ?_
  refine g_aload_n (i := 0) (x := 36) hC (dX12_isThing_2) rfl rfl ?_
  refine g_getI hC flX12_92 (dX12_isThing_3) rfl rfl ?_
  refine g_iconst (v := 1) hC (dX12_isThing_6) kc_1 ?_
  refine g_isub hC (dX12_isThing_7) ?_
  refine g_callSi ([.int x1, .int 0, .int ((M.1 36 1) - 1)]) hC wsX12_95 (dX12_isThing_8) rfl (by omega) (Nat.le_of_ble_eq_true rfl) (cX12_in_ok (by omega) x1 0 ((M.1 36 1) - 1) M (K := fun r => r = fX12_in x1 0 ((M.1 36 1) - 1)) rfl) (fun r N q => ?_)
  obtain ⟨rfl, rfl⟩ := q
  refine g_zreturn hC hr (dX12_isThing_11) (bX12_in x1 0 ((M.1 36 1) - 1)) ?_
  exact ⟨rfl, wpI_s h⟩
/-! LostByStateModel.isDeed(I)Z -/
theorem dX12_isDeed_0 : decode cX12_isDeed 0 = .ok (.iload_n 1, 1) := by decide +kernel
theorem dX12_isDeed_1 : decode cX12_isDeed 1 = .ok (.iconst 0, 1) := by decide +kernel
theorem dX12_isDeed_2 : decode cX12_isDeed 2 = .ok (.aload_n 0, 1) := by decide +kernel
theorem dX12_isDeed_3 : decode cX12_isDeed 3 = .ok (.getfield 99, 3) := by decide +kernel
theorem dX12_isDeed_6 : decode cX12_isDeed 6 = .ok (.iconst 1, 1) := by decide +kernel
theorem dX12_isDeed_7 : decode cX12_isDeed 7 = .ok (.isub, 1) := by decide +kernel
theorem dX12_isDeed_8 : decode cX12_isDeed 8 = .ok (.invokestatic 95, 3) := by decide +kernel
theorem dX12_isDeed_11 : decode cX12_isDeed 11 = .ok (.ireturn, 1) := by decide +kernel
def fX12_isDeed (x1 : Int32) (M : zM) : Int32 := (fX12_in x1 0 ((M.1 36 2) - 1))
theorem bX12_isDeed (x1 : Int32) (M : zM) : fX12_isDeed x1 M = 0 ∨ fX12_isDeed x1 M = 1 := by
  unfold fX12_isDeed
  try simp only [zlet, zp, zj]
  repeat' split
  all_goals first | exact Or.inl rfl | exact Or.inr rfl | (simp; done) | apply bX12_in
set_option maxHeartbeats 4000000 in
theorem cX12_isDeed_ok {E : zE} {d : Nat} (hd : 1 ≤ d) (x1 : Int32) (M : zM) {K : Int32 → Prop} (h : wpI (fX12_isDeed x1 M) K) : CMi E d yX12_isDeed cX12_isDeed 2 (some .boolean) [.ref 36, .int x1] M (fun r N => M = N ∧ K r) := by
  refine CMi.of (by decide) (Nat.le_of_ble_eq_true rfl) (fun Γ hC hr => ?_)
  have hC : Cx E Γ RX12 cX12_isDeed 2 d := hC
  show G E Γ 2 0 [(0, .ref 36), (1, .int x1)] [] M
  unfold fX12_isDeed at h
  refine g_iload_n (i := 1) (x := x1) hC (dX12_isDeed_0) rfl rfl ?_
  refine g_iconst (v := 0) hC (dX12_isDeed_1) kc_0 ?_
  refine g_aload_n (i := 0) (x := 36) hC (dX12_isDeed_2) rfl rfl ?_
  refine g_getI hC flX12_99 (dX12_isDeed_3) rfl rfl ?_
  refine g_iconst (v := 1) hC (dX12_isDeed_6) kc_1 ?_
  refine g_isub hC (dX12_isDeed_7) ?_
  refine g_callSi ([.int x1, .int 0, .int ((M.1 36 2) - 1)]) hC wsX12_95 (dX12_isDeed_8) rfl (by omega) (Nat.le_of_ble_eq_true rfl) (cX12_in_ok (by omega) x1 0 ((M.1 36 2) - 1) M (K := fun r => r = fX12_in x1 0 ((M.1 36 2) - 1)) rfl) (fun r N q => ?_)
  obtain ⟨rfl, rfl⟩ := q
  refine g_zreturn hC hr (dX12_isDeed_11) (bX12_in x1 0 ((M.1 36 2) - 1)) ?_
  exact ⟨rfl, wpI_s h⟩
/-! LostByStateModel.areMarks(I)Z -/
theorem dX12_areMarks_0 : decode cX12_areMarks 0 = .ok (.iload_n 0, 1) := by decide +kernel
theorem dX12_areMarks_1 : decode cX12_areMarks 1 = .ok (.iconst 0, 1) := by decide +kernel
theorem dX12_areMarks_2 : decode cX12_areMarks 2 = .ok (.sipush 255, 3) := by decide +kernel
theorem dX12_areMarks_5 : decode cX12_areMarks 5 = .ok (.invokestatic 95, 3) := by decide +kernel
theorem dX12_areMarks_8 : decode cX12_areMarks 8 = .ok (.ireturn, 1) := by decide +kernel
def fX12_areMarks (x0 : Int32) : Int32 := (fX12_in x0 0 255)
theorem bX12_areMarks (x0 : Int32) : fX12_areMarks x0 = 0 ∨ fX12_areMarks x0 = 1 := by
  unfold fX12_areMarks
  try simp only [zlet, zp, zj]
  repeat' split
  all_goals first | exact Or.inl rfl | exact Or.inr rfl | (simp; done) | apply bX12_in
set_option maxHeartbeats 4000000 in
theorem cX12_areMarks_ok {E : zE} {d : Nat} (hd : 1 ≤ d) (x0 : Int32) (M : zM) {K : Int32 → Prop} (h : wpI (fX12_areMarks x0) K) : CMi E d yX12_areMarks cX12_areMarks 1 (some .boolean) [.int x0] M (fun r N => M = N ∧ K r) := by
  refine CMi.of (by decide) (Nat.le_of_ble_eq_true rfl) (fun Γ hC hr => ?_)
  have hC : Cx E Γ RX12 cX12_areMarks 1 d := hC
  show G E Γ 1 0 [(0, .int x0)] [] M
  unfold fX12_areMarks at h
  refine g_iload_n (i := 0) (x := x0) hC (dX12_areMarks_0) rfl rfl ?_
  refine g_iconst (v := 0) hC (dX12_areMarks_1) kc_0 ?_
  refine g_sipush (v := 255) hC (dX12_areMarks_2) ks_255 ?_
  refine g_callSi ([.int x0, .int 0, .int 255]) hC wsX12_95 (dX12_areMarks_5) rfl (by omega) (Nat.le_of_ble_eq_true rfl) (cX12_in_ok (by omega) x0 0 255 M (K := fun r => r = fX12_in x0 0 255) rfl) (fun r N q => ?_)
  obtain ⟨rfl, rfl⟩ := q
  refine g_zreturn hC hr (dX12_areMarks_8) (bX12_in x0 0 255) ?_
  exact ⟨rfl, wpI_s h⟩
/-! LostByStateModel.all()I -/
theorem dX12_all_0 : decode cX12_all 0 = .ok (.iconst 1, 1) := by decide +kernel
theorem dX12_all_1 : decode cX12_all 1 = .ok (.aload_n 0, 1) := by decide +kernel
theorem dX12_all_2 : decode cX12_all 2 = .ok (.getfield 92, 3) := by decide +kernel
theorem dX12_all_5 : decode cX12_all 5 = .ok (.ishl, 1) := by decide +kernel
theorem dX12_all_6 : decode cX12_all 6 = .ok (.iconst 1, 1) := by decide +kernel
theorem dX12_all_7 : decode cX12_all 7 = .ok (.isub, 1) := by decide +kernel
theorem dX12_all_8 : decode cX12_all 8 = .ok (.ireturn, 1) := by decide +kernel
def fX12_all  (M : zM) : Int32 := ((zshl 1 (M.1 36 1)) - 1)
set_option maxHeartbeats 4000000 in
theorem cX12_all_ok {E : zE} {d : Nat} (hd : 0 ≤ d)  (M : zM) {K : Int32 → Prop} (h : wpI (fX12_all  M) K) : CMi E d yX12_all cX12_all 1 (some .int) [.ref 36] M (fun r N => M = N ∧ K r) := by
  refine CMi.of (by decide) (Nat.le_of_ble_eq_true rfl) (fun Γ hC hr => ?_)
  have hC : Cx E Γ RX12 cX12_all 1 d := hC
  show G E Γ 1 0 [(0, .ref 36)] [] M
  unfold fX12_all at h
  refine g_iconst (v := 1) hC (dX12_all_0) kc_1 ?_
  refine g_aload_n (i := 0) (x := 36) hC (dX12_all_1) rfl rfl ?_
  refine g_getI hC flX12_92 (dX12_all_2) rfl rfl ?_
  refine g_ishl hC (dX12_all_5) ?_
  refine g_iconst (v := 1) hC (dX12_all_6) kc_1 ?_
  refine g_isub hC (dX12_all_7) ?_
  refine g_ireturn hC hr (dX12_all_8) ?_
  exact ⟨rfl, wpI_s h⟩
/-! LostByStateModel.sign(I)I -/
theorem dX12_sign_0 : decode cX12_sign 0 = .ok (.aload_n 0, 1) := by decide +kernel
theorem dX12_sign_1 : decode cX12_sign 1 = .ok (.iconst 0, 1) := by decide +kernel
theorem dX12_sign_2 : decode cX12_sign 2 = .ok (.putfield 86, 3) := by decide +kernel
theorem dX12_sign_5 : decode cX12_sign 5 = .ok (.aload_n 0, 1) := by decide +kernel
theorem dX12_sign_6 : decode cX12_sign 6 = .ok (.getfield 102, 3) := by decide +kernel
theorem dX12_sign_9 : decode cX12_sign 9 = .ok (.iconst 4, 1) := by decide +kernel
theorem dX12_sign_10 : decode cX12_sign 10 = .ok (.iadd, 1) := by decide +kernel
theorem dX12_sign_11 : decode cX12_sign 11 = .ok (.bipush 80, 2) := by decide +kernel
theorem dX12_sign_13 : decode cX12_sign 13 = .ok (.if_icmp .le 5, 3) := by decide +kernel
theorem dX12_sign_16 : decode cX12_sign 16 = .ok (.iconst (-1), 1) := by decide +kernel
theorem dX12_sign_17 : decode cX12_sign 17 = .ok (.ireturn, 1) := by decide +kernel
theorem dX12_sign_18 : decode cX12_sign 18 = .ok (.iconst 3, 1) := by decide +kernel
theorem dX12_sign_19 : decode cX12_sign 19 = .ok (.istore_n 2, 1) := by decide +kernel
theorem dX12_sign_20 : decode cX12_sign 20 = .ok (.iload_n 2, 1) := by decide +kernel
theorem dX12_sign_21 : decode cX12_sign 21 = .ok (.ifCond .lt 32, 3) := by decide +kernel
theorem dX12_sign_24 : decode cX12_sign 24 = .ok (.aload_n 0, 1) := by decide +kernel
theorem dX12_sign_25 : decode cX12_sign 25 = .ok (.getfield 29, 3) := by decide +kernel
theorem dX12_sign_28 : decode cX12_sign 28 = .ok (.aload_n 0, 1) := by decide +kernel
theorem dX12_sign_29 : decode cX12_sign 29 = .ok (.dup, 1) := by decide +kernel
theorem dX12_sign_30 : decode cX12_sign 30 = .ok (.getfield 102, 3) := by decide +kernel
theorem dX12_sign_33 : decode cX12_sign 33 = .ok (.dup_x1, 1) := by decide +kernel
theorem dX12_sign_34 : decode cX12_sign 34 = .ok (.iconst 1, 1) := by decide +kernel
theorem dX12_sign_35 : decode cX12_sign 35 = .ok (.iadd, 1) := by decide +kernel
theorem dX12_sign_36 : decode cX12_sign 36 = .ok (.putfield 102, 3) := by decide +kernel
theorem dX12_sign_39 : decode cX12_sign 39 = .ok (.iload_n 1, 1) := by decide +kernel
theorem dX12_sign_40 : decode cX12_sign 40 = .ok (.bipush 8, 2) := by decide +kernel
theorem dX12_sign_42 : decode cX12_sign 42 = .ok (.iload_n 2, 1) := by decide +kernel
theorem dX12_sign_43 : decode cX12_sign 43 = .ok (.imul, 1) := by decide +kernel
theorem dX12_sign_44 : decode cX12_sign 44 = .ok (.ishr, 1) := by decide +kernel
theorem dX12_sign_45 : decode cX12_sign 45 = .ok (.i2b, 1) := by decide +kernel
theorem dX12_sign_46 : decode cX12_sign 46 = .ok (.bastore, 1) := by decide +kernel
theorem dX12_sign_47 : decode cX12_sign 47 = .ok (.iinc 2 (-1), 3) := by decide +kernel
theorem dX12_sign_50 : decode cX12_sign 50 = .ok (.goto (-30), 3) := by decide +kernel
theorem dX12_sign_53 : decode cX12_sign 53 = .ok (.aload_n 0, 1) := by decide +kernel
theorem dX12_sign_54 : decode cX12_sign 54 = .ok (.getfield 102, 3) := by decide +kernel
theorem dX12_sign_57 : decode cX12_sign 57 = .ok (.ireturn, 1) := by decide +kernel
def fX12_sign_L20 (x1 : Int32) : Nat → Int32 → zM → Option zM
  | 0, _, _ => none
  | n + 1, x2, M => if x2 < 0 then (
    some M)
    else (
    zlet (zSI M 36 9 ((M.1 36 9) + 1)) fun (M36 : zM) =>
    if zin (M.1 36 9) 80 then (
    zlet (zSI M36 41 (M.1 36 9).toNatClampNeg (vp_nar .byte ((zshr x1 (8 * x2)).toInt8.toInt32))) fun (M46 : zM) =>
    fX12_sign_L20 x1 n (x2 + (-1)) M46) else none)
def fX12_sign (x1 : Int32) (M : zM) : Option (Int32 × zM) := zlet (zSI M 36 12 0) fun (M2 : zM) =>
  if ((M2.1 36 9) + 4) ≤ 80 then (
  (fX12_sign_L20 x1 4000 3 M2).bind fun (M_53 : zM) =>
  some (M_53.1 36 9, M_53))
  else (
  some ((-1), M2))
set_option maxHeartbeats 4000000 in
theorem lX12_sign_20 {E : zE} {Γ : zT} {d : Nat} {K1 : zM → Prop} (hC : Cx E Γ RX12 cX12_sign 3 d) (hd : 0 ≤ d) (x1 : Int32) (hx : ∀ (M_53 : zM), K1 M_53 → G E Γ 3 53 [(0, .ref 36)] [] M_53) :
    ∀ (n : Nat) (x2 : Int32) (M : zM), wpO (fX12_sign_L20 x1 n x2 M) K1 → G E Γ 3 20 [(0, .ref 36), (1, .int x1), (2, .int x2)] [] M := by
  intro n
  induction n with
  | zero =>
    intro x2 M h
    exact (wpO_0 h).elim
  | succ n ih =>
    intro x2 M h
    rw [fX12_sign_L20.eq_2] at h
    refine g_iload_n (i := 2) (x := x2) hC (dX12_sign_20) rfl rfl ?_
    refine g_if_lt (tgt := 53) hC (dX12_sign_21) (by decide) (fun c21 => ?_) (fun c21 => ?_)
    · have h := wpO_t c21 h
      refine g_sub (lv' := [(0, .ref 36)]) [0] rfl ?_
      exact hx _ (wpO_s h)
    · have h := wpO_f c21 h
      refine g_aload_n (i := 0) (x := 36) hC (dX12_sign_24) rfl rfl ?_
      refine g_getR (r := 41) hC flX12_29 (dX12_sign_25) rfl rfl rfl ?_
      refine g_aload_n (i := 0) (x := 36) hC (dX12_sign_28) rfl rfl ?_
      refine g_dup hC (dX12_sign_29) rfl ?_
      refine g_getI hC flX12_102 (dX12_sign_30) rfl rfl ?_
      refine g_dup_x1 hC (dX12_sign_33) rfl rfl ?_
      refine g_iconst (v := 1) hC (dX12_sign_34) kc_1 ?_
      refine g_iadd hC (dX12_sign_35) ?_
      refine g_putI hC fpX12_102 (dX12_sign_36) rfl rfl rfl rfl ?_
      refine g_nmM (fun M36 e_M36 => ?_)
      have h := wpO_n e_M36 h
      refine g_iload_n (i := 1) (x := x1) hC (dX12_sign_39) rfl rfl ?_
      refine g_bipush (v := 8) hC (dX12_sign_40) kb_8 ?_
      refine g_iload_n (i := 2) (x := x2) hC (dX12_sign_42) rfl rfl ?_
      refine g_imul hC (dX12_sign_43) ?_
      refine g_ishr hC (dX12_sign_44) ?_
      refine g_i2b hC (dX12_sign_45) ?_
      obtain ⟨q1, h⟩ := wpO_g h
      refine g_bastore (n := 80) hC (dX12_sign_46) rfl q1 ?_
      refine g_nmM (fun M46 e_M46 => ?_)
      have h := wpO_n e_M46 h
      refine g_iinc (x := x2) (v := (x2 + (-1))) (lv2 := [(2, .int (x2 + (-1))), (0, .ref 36), (1, .int x1)]) hC (dX12_sign_47) rfl rfl (by decide) rfl ?_
      refine g_goto (tgt := 20) hC (dX12_sign_50) (by decide) ?_
      refine g_sub (lv' := [(0, .ref 36), (1, .int x1), (2, .int (x2 + (-1)))]) [1, 2, 0] rfl ?_
      exact ih _ _ h
set_option maxHeartbeats 4000000 in
theorem cX12_sign_ok {E : zE} {d : Nat} (hd : 0 ≤ d) (x1 : Int32) (M : zM) {K : (Int32 × zM) → Prop} (h : wpO (fX12_sign x1 M) K) : CMi E d yX12_sign cX12_sign 3 (some .int) [.ref 36, .int x1] M (fun r N => K (r, N)) := by
  refine CMi.of (by decide) (Nat.le_of_ble_eq_true rfl) (fun Γ hC hr => ?_)
  have hC : Cx E Γ RX12 cX12_sign 3 d := hC
  show G E Γ 3 0 [(0, .ref 36), (1, .int x1)] [] M
  unfold fX12_sign at h
  refine g_aload_n (i := 0) (x := 36) hC (dX12_sign_0) rfl rfl ?_
  refine g_iconst (v := 0) hC (dX12_sign_1) kc_0 ?_
  refine g_putI hC fpX12_86 (dX12_sign_2) rfl rfl rfl rfl ?_
  refine g_nmM (fun M2 e_M2 => ?_)
  have h := wpO_n e_M2 h
  refine g_aload_n (i := 0) (x := 36) hC (dX12_sign_5) rfl rfl ?_
  refine g_getI hC flX12_102 (dX12_sign_6) rfl rfl ?_
  refine g_iconst (v := 4) hC (dX12_sign_9) kc_4 ?_
  refine g_iadd hC (dX12_sign_10) ?_
  refine g_bipush (v := 80) hC (dX12_sign_11) kb_80 ?_
  refine g_icmp_le (tgt := 18) hC (dX12_sign_13) (by decide) (fun c13 => ?_) (fun c13 => ?_)
  · have h := wpO_t c13 h
    refine g_iconst (v := 3) hC (dX12_sign_18) kc_3 ?_
    refine g_istore_n (i := 2) (lv2 := [(2, .int 3), (0, .ref 36), (1, .int x1)]) hC (dX12_sign_19) rfl (by decide) rfl ?_
    refine g_sub (lv' := [(0, .ref 36), (1, .int x1), (2, .int 3)]) [1, 2, 0] rfl ?_
    refine wpO_bJ h (fun KL20 hKL20 h => ?_)
    refine lX12_sign_20 (K1 := KL20) hC (by omega) x1 (fun M_53 h => ?_) _ _ _ h
    have h := hKL20 _ h
    refine g_aload_n (i := 0) (x := 36) hC (dX12_sign_53) rfl rfl ?_
    refine g_getI hC flX12_102 (dX12_sign_54) rfl rfl ?_
    refine g_ireturn hC hr (dX12_sign_57) ?_
    exact wpO_s h
  · have h := wpO_f c13 h
    refine g_iconst (v := (-1)) hC (dX12_sign_16) kc_m1 ?_
    refine g_ireturn hC hr (dX12_sign_17) ?_
    exact wpO_s h
/-! LostByStateModel.end(I)Z -/
theorem dX12_end_0 : decode cX12_end 0 = .ok (.aload_n 0, 1) := by decide +kernel
theorem dX12_end_1 : decode cX12_end 1 = .ok (.iconst 0, 1) := by decide +kernel
theorem dX12_end_2 : decode cX12_end 2 = .ok (.putfield 86, 3) := by decide +kernel
theorem dX12_end_5 : decode cX12_end 5 = .ok (.iload_n 1, 1) := by decide +kernel
theorem dX12_end_6 : decode cX12_end 6 = .ok (.iconst 0, 1) := by decide +kernel
theorem dX12_end_7 : decode cX12_end 7 = .ok (.aload_n 0, 1) := by decide +kernel
theorem dX12_end_8 : decode cX12_end 8 = .ok (.getfield 102, 3) := by decide +kernel
theorem dX12_end_11 : decode cX12_end 11 = .ok (.invokestatic 95, 3) := by decide +kernel
theorem dX12_end_14 : decode cX12_end 14 = .ok (.ifCond .ne 5, 3) := by decide +kernel
theorem dX12_end_17 : decode cX12_end 17 = .ok (.iconst 0, 1) := by decide +kernel
theorem dX12_end_18 : decode cX12_end 18 = .ok (.ireturn, 1) := by decide +kernel
theorem dX12_end_19 : decode cX12_end 19 = .ok (.aload_n 0, 1) := by decide +kernel
theorem dX12_end_20 : decode cX12_end 20 = .ok (.iload_n 1, 1) := by decide +kernel
theorem dX12_end_21 : decode cX12_end 21 = .ok (.putfield 102, 3) := by decide +kernel
theorem dX12_end_24 : decode cX12_end 24 = .ok (.iconst 1, 1) := by decide +kernel
theorem dX12_end_25 : decode cX12_end 25 = .ok (.ireturn, 1) := by decide +kernel
def fX12_end (x1 : Int32) (M : zM) : Int32 × zM := zlet (zSI M 36 12 0) fun (M2 : zM) =>
  if (fX12_in x1 0 (M2.1 36 9)) = 0 then (
  (0, M2))
  else (
  zlet (zSI M2 36 9 x1) fun (M21 : zM) =>
  (1, M21))
theorem bX12_end (x1 : Int32) (M : zM) : (fX12_end x1 M).1 = 0 ∨ (fX12_end x1 M).1 = 1 := by
  unfold fX12_end
  try simp only [zlet, zp, zj]
  repeat' split
  all_goals first | exact Or.inl rfl | exact Or.inr rfl | (simp; done) | apply bX12_in
set_option maxHeartbeats 4000000 in
theorem cX12_end_ok {E : zE} {d : Nat} (hd : 1 ≤ d) (x1 : Int32) (M : zM) {K : (Int32 × zM) → Prop} (h : wpI (fX12_end x1 M) K) : CMi E d yX12_end cX12_end 2 (some .boolean) [.ref 36, .int x1] M (fun r N => K (r, N)) := by
  refine CMi.of (by decide) (Nat.le_of_ble_eq_true rfl) (fun Γ hC hr => ?_)
  have hC : Cx E Γ RX12 cX12_end 2 d := hC
  show G E Γ 2 0 [(0, .ref 36), (1, .int x1)] [] M
  unfold fX12_end at h
  refine g_aload_n (i := 0) (x := 36) hC (dX12_end_0) rfl rfl ?_
  refine g_iconst (v := 0) hC (dX12_end_1) kc_0 ?_
  refine g_putI hC fpX12_86 (dX12_end_2) rfl rfl rfl rfl ?_
  refine g_nmM (fun M2 e_M2 => ?_)
  have h := wpI_n e_M2 h
  refine g_iload_n (i := 1) (x := x1) hC (dX12_end_5) rfl rfl ?_
  refine g_iconst (v := 0) hC (dX12_end_6) kc_0 ?_
  refine g_aload_n (i := 0) (x := 36) hC (dX12_end_7) rfl rfl ?_
  refine g_getI hC flX12_102 (dX12_end_8) rfl rfl ?_
  refine g_callSi ([.int x1, .int 0, .int (M2.1 36 9)]) hC wsX12_95 (dX12_end_11) rfl (by omega) (Nat.le_of_ble_eq_true rfl) (cX12_in_ok (by omega) x1 0 (M2.1 36 9) M2 (K := fun r => r = fX12_in x1 0 (M2.1 36 9)) rfl) (fun r N q => ?_)
  obtain ⟨rfl, rfl⟩ := q
  refine g_if_ne (tgt := 19) hC (dX12_end_14) (by decide) (fun c14 => ?_) (fun c14 => ?_)
  · have h := wpI_f c14 h
    refine g_aload_n (i := 0) (x := 36) hC (dX12_end_19) rfl rfl ?_
    refine g_iload_n (i := 1) (x := x1) hC (dX12_end_20) rfl rfl ?_
    refine g_putI hC fpX12_102 (dX12_end_21) rfl rfl rfl rfl ?_
    refine g_nmM (fun M21 e_M21 => ?_)
    have h := wpI_n e_M21 h
    refine g_iconst (v := 1) hC (dX12_end_24) kc_1 ?_
    refine g_zreturn hC hr (dX12_end_25) (Or.inr rfl) ?_
    exact wpI_s h
  · have h := wpI_t c14 h
    refine g_iconst (v := 0) hC (dX12_end_17) kc_0 ?_
    refine g_zreturn hC hr (dX12_end_18) (Or.inl rfl) ?_
    exact wpI_s h
/-! LostByStateModel.begin([BII)V -/
theorem dX12_begin_0 : decode cX12_begin 0 = .ok (.aload_n 0, 1) := by decide +kernel
theorem dX12_begin_1 : decode cX12_begin 1 = .ok (.aload_n 1, 1) := by decide +kernel
theorem dX12_begin_2 : decode cX12_begin 2 = .ok (.putfield 105, 3) := by decide +kernel
theorem dX12_begin_5 : decode cX12_begin 5 = .ok (.aload_n 0, 1) := by decide +kernel
theorem dX12_begin_6 : decode cX12_begin 6 = .ok (.iload_n 2, 1) := by decide +kernel
theorem dX12_begin_7 : decode cX12_begin 7 = .ok (.putfield 108, 3) := by decide +kernel
theorem dX12_begin_10 : decode cX12_begin 10 = .ok (.aload_n 0, 1) := by decide +kernel
theorem dX12_begin_11 : decode cX12_begin 11 = .ok (.iload_n 3, 1) := by decide +kernel
theorem dX12_begin_12 : decode cX12_begin 12 = .ok (.putfield 111, 3) := by decide +kernel
theorem dX12_begin_15 : decode cX12_begin 15 = .ok (.aload_n 0, 1) := by decide +kernel
theorem dX12_begin_16 : decode cX12_begin 16 = .ok (.iconst 0, 1) := by decide +kernel
theorem dX12_begin_17 : decode cX12_begin 17 = .ok (.putfield 114, 3) := by decide +kernel
theorem dX12_begin_20 : decode cX12_begin 20 = .ok (.aload_n 0, 1) := by decide +kernel
theorem dX12_begin_21 : decode cX12_begin 21 = .ok (.iconst (-1), 1) := by decide +kernel
theorem dX12_begin_22 : decode cX12_begin 22 = .ok (.putfield 117, 3) := by decide +kernel
theorem dX12_begin_25 : decode cX12_begin 25 = .ok (.return_, 1) := by decide +kernel
def fX12_begin (x1 : Nat) (x2 : Int32) (x3 : Int32) (M : zM) : zM := zlet (zSD M 13 (some x1)) fun (M2 : zM) =>
  zlet (zSI M2 36 14 x2) fun (M7 : zM) =>
  zlet (zSI M7 36 15 x3) fun (M12 : zM) =>
  zlet (zSI M12 36 16 0) fun (M17 : zM) =>
  zlet (zSI M17 36 17 (-1)) fun (M22 : zM) =>
  M22
set_option maxHeartbeats 4000000 in
theorem cX12_begin_ok {E : zE} {d : Nat} (hd : 0 ≤ d) (x1 : Nat) (x2 : Int32) (x3 : Int32) (M : zM) {K : zM → Prop} (h : wpI (fX12_begin x1 x2 x3 M) K) : CMv E d yX12_begin cX12_begin 4 (none) [.ref 36, .ref x1, .int x2, .int x3] M K := by
  refine CMv.of (by decide) (Nat.le_of_ble_eq_true rfl) (fun Γ hC hr => ?_)
  have hC : Cx E Γ RX12 cX12_begin 4 d := hC
  show G E Γ 4 0 [(0, .ref 36), (1, .ref x1), (2, .int x2), (3, .int x3)] [] M
  unfold fX12_begin at h
  refine g_aload_n (i := 0) (x := 36) hC (dX12_begin_0) rfl rfl ?_
  refine g_aload_n (i := 1) (x := x1) hC (dX12_begin_1) rfl rfl ?_
  refine g_putD hC fpX12_105 (dX12_begin_2) rfl rfl (fun _ => rfl) (fun _ => rfl) ?_
  refine g_nmM (fun M2 e_M2 => ?_)
  have h := wpI_n e_M2 h
  refine g_aload_n (i := 0) (x := 36) hC (dX12_begin_5) rfl rfl ?_
  refine g_iload_n (i := 2) (x := x2) hC (dX12_begin_6) rfl rfl ?_
  refine g_putI hC fpX12_108 (dX12_begin_7) rfl rfl rfl rfl ?_
  refine g_nmM (fun M7 e_M7 => ?_)
  have h := wpI_n e_M7 h
  refine g_aload_n (i := 0) (x := 36) hC (dX12_begin_10) rfl rfl ?_
  refine g_iload_n (i := 3) (x := x3) hC (dX12_begin_11) rfl rfl ?_
  refine g_putI hC fpX12_111 (dX12_begin_12) rfl rfl rfl rfl ?_
  refine g_nmM (fun M12 e_M12 => ?_)
  have h := wpI_n e_M12 h
  refine g_aload_n (i := 0) (x := 36) hC (dX12_begin_15) rfl rfl ?_
  refine g_iconst (v := 0) hC (dX12_begin_16) kc_0 ?_
  refine g_putI hC fpX12_114 (dX12_begin_17) rfl rfl rfl rfl ?_
  refine g_nmM (fun M17 e_M17 => ?_)
  have h := wpI_n e_M17 h
  refine g_aload_n (i := 0) (x := 36) hC (dX12_begin_20) rfl rfl ?_
  refine g_iconst (v := (-1)) hC (dX12_begin_21) kc_m1 ?_
  refine g_putI hC fpX12_117 (dX12_begin_22) rfl rfl rfl rfl ?_
  refine g_nmM (fun M22 e_M22 => ?_)
  have h := wpI_n e_M22 h
  refine g_vreturn hC hr (dX12_begin_25) ?_
  exact wpI_s h
/-! LostByStateModel.beginText(I)V -/
theorem dX12_beginText_0 : decode cX12_beginText 0 = .ok (.aload_n 0, 1) := by decide +kernel
theorem dX12_beginText_1 : decode cX12_beginText 1 = .ok (.aload_n 0, 1) := by decide +kernel
theorem dX12_beginText_2 : decode cX12_beginText 2 = .ok (.getfield 29, 3) := by decide +kernel
theorem dX12_beginText_5 : decode cX12_beginText 5 = .ok (.aload_n 0, 1) := by decide +kernel
theorem dX12_beginText_6 : decode cX12_beginText 6 = .ok (.getfield 102, 3) := by decide +kernel
theorem dX12_beginText_9 : decode cX12_beginText 9 = .ok (.iload_n 1, 1) := by decide +kernel
theorem dX12_beginText_10 : decode cX12_beginText 10 = .ok (.invokevirtual 120, 3) := by decide +kernel
theorem dX12_beginText_13 : decode cX12_beginText 13 = .ok (.aload_n 0, 1) := by decide +kernel
theorem dX12_beginText_14 : decode cX12_beginText 14 = .ok (.iconst 0, 1) := by decide +kernel
theorem dX12_beginText_15 : decode cX12_beginText 15 = .ok (.putfield 102, 3) := by decide +kernel
theorem dX12_beginText_18 : decode cX12_beginText 18 = .ok (.return_, 1) := by decide +kernel
def fX12_beginText (x1 : Int32) (M : zM) : zM := zlet (fX12_begin 41 (M.1 36 9) x1 M) fun (M10 : zM) =>
  zlet (zSI M10 36 9 0) fun (M15 : zM) =>
  M15
set_option maxHeartbeats 4000000 in
theorem cX12_beginText_ok {E : zE} {d : Nat} (hd : 1 ≤ d) (x1 : Int32) (M : zM) {K : zM → Prop} (h : wpI (fX12_beginText x1 M) K) : CMv E d yX12_beginText cX12_beginText 2 (none) [.ref 36, .int x1] M K := by
  refine CMv.of (by decide) (Nat.le_of_ble_eq_true rfl) (fun Γ hC hr => ?_)
  have hC : Cx E Γ RX12 cX12_beginText 2 d := hC
  show G E Γ 2 0 [(0, .ref 36), (1, .int x1)] [] M
  unfold fX12_beginText at h
  refine g_aload_n (i := 0) (x := 36) hC (dX12_beginText_0) rfl rfl ?_
  refine g_aload_n (i := 0) (x := 36) hC (dX12_beginText_1) rfl rfl ?_
  refine g_getR (r := 41) hC flX12_29 (dX12_beginText_2) rfl rfl rfl ?_
  refine g_aload_n (i := 0) (x := 36) hC (dX12_beginText_5) rfl rfl ?_
  refine g_getI hC flX12_102 (dX12_beginText_6) rfl rfl ?_
  refine g_iload_n (i := 1) (x := x1) hC (dX12_beginText_9) rfl rfl ?_
  refine g_callVv ([.ref 41, .int (M.1 36 9), .int x1]) hC wvX12_120 (dX12_beginText_10) rfl rfl (by omega) (Nat.le_of_ble_eq_true rfl) (cX12_begin_ok (by omega) 41 (M.1 36 9) x1 M (K := fun r => r = fX12_begin 41 (M.1 36 9) x1 M) rfl) (fun N q => ?_)
  subst q
  refine g_nmM (fun M10 e_M10 => ?_)
  have h := wpI_n e_M10 h
  refine g_aload_n (i := 0) (x := 36) hC (dX12_beginText_13) rfl rfl ?_
  refine g_iconst (v := 0) hC (dX12_beginText_14) kc_0 ?_
  refine g_putI hC fpX12_102 (dX12_beginText_15) rfl rfl rfl rfl ?_
  refine g_nmM (fun M15 e_M15 => ?_)
  have h := wpI_n e_M15 h
  refine g_vreturn hC hr (dX12_beginText_18) ?_
  exact wpI_s h
/-! LostByStateModel.here()I -/
theorem dX12_here_0 : decode cX12_here 0 = .ok (.aload_n 0, 1) := by decide +kernel
theorem dX12_here_1 : decode cX12_here 1 = .ok (.getfield 114, 3) := by decide +kernel
theorem dX12_here_4 : decode cX12_here 4 = .ok (.aload_n 0, 1) := by decide +kernel
theorem dX12_here_5 : decode cX12_here 5 = .ok (.getfield 108, 3) := by decide +kernel
theorem dX12_here_8 : decode cX12_here 8 = .ok (.if_icmp .ge 30, 3) := by decide +kernel
theorem dX12_here_11 : decode cX12_here 11 = .ok (.aload_n 0, 1) := by decide +kernel
theorem dX12_here_12 : decode cX12_here 12 = .ok (.getfield 114, 3) := by decide +kernel
theorem dX12_here_15 : decode cX12_here 15 = .ok (.aload_n 0, 1) := by decide +kernel
theorem dX12_here_16 : decode cX12_here 16 = .ok (.getfield 111, 3) := by decide +kernel
theorem dX12_here_19 : decode cX12_here 19 = .ok (.if_icmp .ge 19, 3) := by decide +kernel
theorem dX12_here_22 : decode cX12_here 22 = .ok (.aload_n 0, 1) := by decide +kernel
theorem dX12_here_23 : decode cX12_here 23 = .ok (.getfield 105, 3) := by decide +kernel
theorem dX12_here_26 : decode cX12_here 26 = .ok (.aload_n 0, 1) := by decide +kernel
theorem dX12_here_27 : decode cX12_here 27 = .ok (.getfield 114, 3) := by decide +kernel
theorem dX12_here_30 : decode cX12_here 30 = .ok (.baload, 1) := by decide +kernel
theorem dX12_here_31 : decode cX12_here 31 = .ok (.sipush 255, 3) := by decide +kernel
theorem dX12_here_34 : decode cX12_here 34 = .ok (.iand, 1) := by decide +kernel
theorem dX12_here_35 : decode cX12_here 35 = .ok (.goto 4, 3) := by decide +kernel
theorem dX12_here_38 : decode cX12_here 38 = .ok (.iconst (-1), 1) := by decide +kernel
theorem dX12_here_39 : decode cX12_here 39 = .ok (.ireturn, 1) := by decide +kernel
def fX12_here  (M : zM) : Option Int32 := if (M.1 36 14) ≤ (M.1 36 16) then (
  some (-1))
  else (
  if (M.1 36 15) ≤ (M.1 36 16) then (
  some (-1))
  else (
  (M.2.2 13).bind fun (a1 : Nat) =>
  if zSH a1 = .inr (3, zLen a1) then (
  if zin (M.1 36 16) (zLen a1) then (
  some ((M.1 a1 (M.1 36 16).toNatClampNeg) &&& 255)) else none) else none))
set_option maxHeartbeats 4000000 in
theorem cX12_here_ok {E : zE} {d : Nat} (hd : 0 ≤ d)  (M : zM) {K : Int32 → Prop} (h : wpO (fX12_here  M) K) : CMi E d yX12_here cX12_here 1 (some .int) [.ref 36] M (fun r N => M = N ∧ K r) := by
  refine CMi.of (by decide) (Nat.le_of_ble_eq_true rfl) (fun Γ hC hr => ?_)
  have hC : Cx E Γ RX12 cX12_here 1 d := hC
  show G E Γ 1 0 [(0, .ref 36)] [] M
  unfold fX12_here at h
  refine g_aload_n (i := 0) (x := 36) hC (dX12_here_0) rfl rfl ?_
  refine g_getI hC flX12_114 (dX12_here_1) rfl rfl ?_
  refine g_aload_n (i := 0) (x := 36) hC (dX12_here_4) rfl rfl ?_
  refine g_getI hC flX12_108 (dX12_here_5) rfl rfl ?_
  refine g_icmp_ge (tgt := 38) hC (dX12_here_8) (by decide) (fun c8 => ?_) (fun c8 => ?_)
  · have h := wpO_t c8 h
    refine g_iconst (v := (-1)) hC (dX12_here_38) kc_m1 ?_
    refine g_ireturn hC hr (dX12_here_39) ?_
    exact ⟨rfl, wpO_s h⟩
  · have h := wpO_f c8 h
    refine g_aload_n (i := 0) (x := 36) hC (dX12_here_11) rfl rfl ?_
    refine g_getI hC flX12_114 (dX12_here_12) rfl rfl ?_
    refine g_aload_n (i := 0) (x := 36) hC (dX12_here_15) rfl rfl ?_
    refine g_getI hC flX12_111 (dX12_here_16) rfl rfl ?_
    refine g_icmp_ge (tgt := 38) hC (dX12_here_19) (by decide) (fun c19 => ?_) (fun c19 => ?_)
    · have h := wpO_t c19 h
      refine g_iconst (v := (-1)) hC (dX12_here_38) kc_m1 ?_
      refine g_ireturn hC hr (dX12_here_39) ?_
      exact ⟨rfl, wpO_s h⟩
    · have h := wpO_f c19 h
      refine g_aload_n (i := 0) (x := 36) hC (dX12_here_22) rfl rfl ?_
      obtain ⟨a1, q2, h⟩ := wpO_d h
      refine g_getD hC flX12_105 (dX12_here_23) rfl rfl q2 ?_
      refine g_aload_n (i := 0) (x := 36) hC (dX12_here_26) rfl rfl ?_
      refine g_getI hC flX12_114 (dX12_here_27) rfl rfl ?_
      obtain ⟨q3, h⟩ := wpO_g h
      obtain ⟨q4, h⟩ := wpO_g h
      refine g_baload (n := (zLen a1)) hC (dX12_here_30) q3 q4 ?_
      refine g_sipush (v := 255) hC (dX12_here_31) ks_255 ?_
      refine g_iand hC (dX12_here_34) ?_
      refine g_goto (tgt := 39) hC (dX12_here_35) (by decide) ?_
      refine g_ireturn hC hr (dX12_here_39) ?_
      exact ⟨rfl, wpO_s h⟩
/-! LostByStateModel.fine()Z -/
theorem dX12_fine_0 : decode cX12_fine 0 = .ok (.aload_n 0, 1) := by decide +kernel
theorem dX12_fine_1 : decode cX12_fine 1 = .ok (.getfield 117, 3) := by decide +kernel
theorem dX12_fine_4 : decode cX12_fine 4 = .ok (.iconst (-1), 1) := by decide +kernel
theorem dX12_fine_5 : decode cX12_fine 5 = .ok (.if_icmp .ne 7, 3) := by decide +kernel
theorem dX12_fine_8 : decode cX12_fine 8 = .ok (.iconst 1, 1) := by decide +kernel
theorem dX12_fine_9 : decode cX12_fine 9 = .ok (.goto 4, 3) := by decide +kernel
theorem dX12_fine_12 : decode cX12_fine 12 = .ok (.iconst 0, 1) := by decide +kernel
theorem dX12_fine_13 : decode cX12_fine 13 = .ok (.ireturn, 1) := by decide +kernel
def fX12_fine  (M : zM) : Int32 := if (M.1 36 17) = (-1) then (
  1)
  else (
  0)
theorem bX12_fine  (M : zM) : fX12_fine  M = 0 ∨ fX12_fine  M = 1 := by
  unfold fX12_fine
  try simp only [zlet, zp, zj]
  repeat' split
  all_goals first | exact Or.inl rfl | exact Or.inr rfl | (simp; done)
set_option maxHeartbeats 4000000 in
theorem cX12_fine_ok {E : zE} {d : Nat} (hd : 0 ≤ d)  (M : zM) {K : Int32 → Prop} (h : wpI (fX12_fine  M) K) : CMi E d yX12_fine cX12_fine 1 (some .boolean) [.ref 36] M (fun r N => M = N ∧ K r) := by
  refine CMi.of (by decide) (Nat.le_of_ble_eq_true rfl) (fun Γ hC hr => ?_)
  have hC : Cx E Γ RX12 cX12_fine 1 d := hC
  show G E Γ 1 0 [(0, .ref 36)] [] M
  unfold fX12_fine at h
  refine g_aload_n (i := 0) (x := 36) hC (dX12_fine_0) rfl rfl ?_
  refine g_getI hC flX12_117 (dX12_fine_1) rfl rfl ?_
  refine g_iconst (v := (-1)) hC (dX12_fine_4) kc_m1 ?_
  refine g_icmp_ne (tgt := 12) hC (dX12_fine_5) (by decide) (fun c5 => ?_) (fun c5 => ?_)
  · have h := wpI_f c5 h
    refine g_iconst (v := 0) hC (dX12_fine_12) kc_0 ?_
    refine g_zreturn hC hr (dX12_fine_13) (Or.inl rfl) ?_
    exact ⟨rfl, wpI_s h⟩
  · have h := wpI_t c5 h
    refine g_iconst (v := 1) hC (dX12_fine_8) kc_1 ?_
    refine g_goto (tgt := 13) hC (dX12_fine_9) (by decide) ?_
    refine g_zreturn hC hr (dX12_fine_13) (Or.inr rfl) ?_
    exact ⟨rfl, wpI_s h⟩
/-! LostByStateModel.fault(I)V -/
theorem dX12_fault_0 : decode cX12_fault 0 = .ok (.aload_n 0, 1) := by decide +kernel
theorem dX12_fault_1 : decode cX12_fault 1 = .ok (.invokevirtual 124, 3) := by decide +kernel
theorem dX12_fault_4 : decode cX12_fault 4 = .ok (.ifCond .eq 8, 3) := by decide +kernel
theorem dX12_fault_7 : decode cX12_fault 7 = .ok (.aload_n 0, 1) := by decide +kernel
theorem dX12_fault_8 : decode cX12_fault 8 = .ok (.iload_n 1, 1) := by decide +kernel
theorem dX12_fault_9 : decode cX12_fault 9 = .ok (.putfield 117, 3) := by decide +kernel
theorem dX12_fault_12 : decode cX12_fault 12 = .ok (.return_, 1) := by decide +kernel
def fX12_fault (x1 : Int32) (M : zM) : zM := if (fX12_fine M) = 0 then (
  M)
  else (
  zlet (zSI M 36 17 x1) fun (M9 : zM) =>
  M9)
set_option maxHeartbeats 4000000 in
theorem cX12_fault_ok {E : zE} {d : Nat} (hd : 1 ≤ d) (x1 : Int32) (M : zM) {K : zM → Prop} (h : wpI (fX12_fault x1 M) K) : CMv E d yX12_fault cX12_fault 2 (none) [.ref 36, .int x1] M K := by
  refine CMv.of (by decide) (Nat.le_of_ble_eq_true rfl) (fun Γ hC hr => ?_)
  have hC : Cx E Γ RX12 cX12_fault 2 d := hC
  show G E Γ 2 0 [(0, .ref 36), (1, .int x1)] [] M
  unfold fX12_fault at h
  refine g_aload_n (i := 0) (x := 36) hC (dX12_fault_0) rfl rfl ?_
  refine g_callVi ([]) hC wvX12_124 (dX12_fault_1) rfl rfl (by omega) (Nat.le_of_ble_eq_true rfl) (cX12_fine_ok (by omega) M (K := fun r => r = fX12_fine M) rfl) (fun r N q => ?_)
  obtain ⟨rfl, rfl⟩ := q
  refine g_if_eq (tgt := 12) hC (dX12_fault_4) (by decide) (fun c4 => ?_) (fun c4 => ?_)
  · have h := wpI_t c4 h
    refine g_vreturn hC hr (dX12_fault_12) ?_
    exact wpI_s h
  · have h := wpI_f c4 h
    refine g_aload_n (i := 0) (x := 36) hC (dX12_fault_7) rfl rfl ?_
    refine g_iload_n (i := 1) (x := x1) hC (dX12_fault_8) rfl rfl ?_
    refine g_putI hC fpX12_117 (dX12_fault_9) rfl rfl rfl rfl ?_
    refine g_nmM (fun M9 e_M9 => ?_)
    have h := wpI_n e_M9 h
    refine g_vreturn hC hr (dX12_fault_12) ?_
    exact wpI_s h
/-! LostByStateModel.passes(C)Z -/
theorem dX12_passes_0 : decode cX12_passes 0 = .ok (.aload_n 0, 1) := by decide +kernel
theorem dX12_passes_1 : decode cX12_passes 1 = .ok (.invokevirtual 124, 3) := by decide +kernel
theorem dX12_passes_4 : decode cX12_passes 4 = .ok (.ifCond .eq 11, 3) := by decide +kernel
theorem dX12_passes_7 : decode cX12_passes 7 = .ok (.aload_n 0, 1) := by decide +kernel
theorem dX12_passes_8 : decode cX12_passes 8 = .ok (.invokevirtual 128, 3) := by decide +kernel
theorem dX12_passes_11 : decode cX12_passes 11 = .ok (.iload_n 1, 1) := by decide +kernel
theorem dX12_passes_12 : decode cX12_passes 12 = .ok (.if_icmp .eq 5, 3) := by decide +kernel
theorem dX12_passes_15 : decode cX12_passes 15 = .ok (.iconst 0, 1) := by decide +kernel
theorem dX12_passes_16 : decode cX12_passes 16 = .ok (.ireturn, 1) := by decide +kernel
theorem dX12_passes_17 : decode cX12_passes 17 = .ok (.aload_n 0, 1) := by decide +kernel
theorem dX12_passes_18 : decode cX12_passes 18 = .ok (.dup, 1) := by decide +kernel
theorem dX12_passes_19 : decode cX12_passes 19 = .ok (.getfield 114, 3) := by decide +kernel
theorem dX12_passes_22 : decode cX12_passes 22 = .ok (.iconst 1, 1) := by decide +kernel
theorem dX12_passes_23 : decode cX12_passes 23 = .ok (.iadd, 1) := by decide +kernel
theorem dX12_passes_24 : decode cX12_passes 24 = .ok (.putfield 114, 3) := by decide +kernel
theorem dX12_passes_27 : decode cX12_passes 27 = .ok (.iconst 1, 1) := by decide +kernel
theorem dX12_passes_28 : decode cX12_passes 28 = .ok (.ireturn, 1) := by decide +kernel
def fX12_passes (x1 : Int32) (M : zM) : Option (Int32 × zM) := if (fX12_fine M) = 0 then (
  some (0, M))
  else (
  (fX12_here M).bind fun (r2 : Int32) =>
  if r2 = x1 then (
  zlet (zSI M 36 16 ((M.1 36 16) + 1)) fun (M24 : zM) =>
  some (1, M24))
  else (
  some (0, M)))
set_option maxHeartbeats 4000000 in
theorem cX12_passes_ok {E : zE} {d : Nat} (hd : 1 ≤ d) (x1 : Int32) (M : zM) {K : (Int32 × zM) → Prop} (h : wpO (fX12_passes x1 M) K) : CMi E d yX12_passes cX12_passes 2 (some .boolean) [.ref 36, .int x1] M (fun r N => K (r, N)) := by
  refine CMi.of (by decide) (Nat.le_of_ble_eq_true rfl) (fun Γ hC hr => ?_)
  have hC : Cx E Γ RX12 cX12_passes 2 d := hC
  show G E Γ 2 0 [(0, .ref 36), (1, .int x1)] [] M
  unfold fX12_passes at h
  refine g_aload_n (i := 0) (x := 36) hC (dX12_passes_0) rfl rfl ?_
  refine g_callVi ([]) hC wvX12_124 (dX12_passes_1) rfl rfl (by omega) (Nat.le_of_ble_eq_true rfl) (cX12_fine_ok (by omega) M (K := fun r => r = fX12_fine M) rfl) (fun r N q => ?_)
  obtain ⟨rfl, rfl⟩ := q
  refine g_if_eq (tgt := 15) hC (dX12_passes_4) (by decide) (fun c4 => ?_) (fun c4 => ?_)
  · have h := wpO_t c4 h
    refine g_iconst (v := 0) hC (dX12_passes_15) kc_0 ?_
    refine g_zreturn hC hr (dX12_passes_16) (Or.inl rfl) ?_
    exact wpO_s h
  · have h := wpO_f c4 h
    refine g_aload_n (i := 0) (x := 36) hC (dX12_passes_7) rfl rfl ?_
    have h := wpO_b h
    refine g_callVi ([]) hC wvX12_128 (dX12_passes_8) rfl rfl (by omega) (Nat.le_of_ble_eq_true rfl) (cX12_here_ok (by omega) M h) (fun r2 N q => ?_)
    obtain ⟨rfl, h⟩ := q
    refine g_iload_n (i := 1) (x := x1) hC (dX12_passes_11) rfl rfl ?_
    refine g_icmp_eq (tgt := 17) hC (dX12_passes_12) (by decide) (fun c12 => ?_) (fun c12 => ?_)
    · have h := wpO_t c12 h
      refine g_aload_n (i := 0) (x := 36) hC (dX12_passes_17) rfl rfl ?_
      refine g_dup hC (dX12_passes_18) rfl ?_
      refine g_getI hC flX12_114 (dX12_passes_19) rfl rfl ?_
      refine g_iconst (v := 1) hC (dX12_passes_22) kc_1 ?_
      refine g_iadd hC (dX12_passes_23) ?_
      refine g_putI hC fpX12_114 (dX12_passes_24) rfl rfl rfl rfl ?_
      refine g_nmM (fun M24 e_M24 => ?_)
      have h := wpO_n e_M24 h
      refine g_iconst (v := 1) hC (dX12_passes_27) kc_1 ?_
      refine g_zreturn hC hr (dX12_passes_28) (Or.inr rfl) ?_
      exact wpO_s h
    · have h := wpO_f c12 h
      refine g_iconst (v := 0) hC (dX12_passes_15) kc_0 ?_
      refine g_zreturn hC hr (dX12_passes_16) (Or.inl rfl) ?_
      exact wpO_s h
/-! LostByStateModel.need(C)V -/
theorem dX12_need_0 : decode cX12_need 0 = .ok (.aload_n 0, 1) := by decide +kernel
theorem dX12_need_1 : decode cX12_need 1 = .ok (.iload_n 1, 1) := by decide +kernel
theorem dX12_need_2 : decode cX12_need 2 = .ok (.invokevirtual 132, 3) := by decide +kernel
theorem dX12_need_5 : decode cX12_need 5 = .ok (.ifCond .ne 11, 3) := by decide +kernel
theorem dX12_need_8 : decode cX12_need 8 = .ok (.aload_n 0, 1) := by decide +kernel
theorem dX12_need_9 : decode cX12_need 9 = .ok (.aload_n 0, 1) := by decide +kernel
theorem dX12_need_10 : decode cX12_need 10 = .ok (.getfield 114, 3) := by decide +kernel
theorem dX12_need_13 : decode cX12_need 13 = .ok (.invokevirtual 136, 3) := by decide +kernel
theorem dX12_need_16 : decode cX12_need 16 = .ok (.return_, 1) := by decide +kernel
def fX12_need (x1 : Int32) (M : zM) : Option zM := (fX12_passes x1 M).bind fun (q : Int32 × zM) => zp q fun r1 M2 =>
  if r1 = 0 then (
  zlet (fX12_fault (M2.1 36 16) M2) fun (M13 : zM) =>
  some M13)
  else (
  some M2)
set_option maxHeartbeats 4000000 in
theorem cX12_need_ok {E : zE} {d : Nat} (hd : 2 ≤ d) (x1 : Int32) (M : zM) {K : zM → Prop} (h : wpO (fX12_need x1 M) K) : CMv E d yX12_need cX12_need 2 (none) [.ref 36, .int x1] M K := by
  refine CMv.of (by decide) (Nat.le_of_ble_eq_true rfl) (fun Γ hC hr => ?_)
  have hC : Cx E Γ RX12 cX12_need 2 d := hC
  show G E Γ 2 0 [(0, .ref 36), (1, .int x1)] [] M
  unfold fX12_need at h
  refine g_aload_n (i := 0) (x := 36) hC (dX12_need_0) rfl rfl ?_
  refine g_iload_n (i := 1) (x := x1) hC (dX12_need_1) rfl rfl ?_
  have h := wpO_b h
  refine g_callVi ([.int x1]) hC wvX12_132 (dX12_need_2) rfl rfl (by omega) (Nat.le_of_ble_eq_true rfl) (cX12_passes_ok (by omega) x1 M h) (fun r1 M2 h => ?_)
  have h := wpO_p h
  refine g_if_ne (tgt := 16) hC (dX12_need_5) (by decide) (fun c5 => ?_) (fun c5 => ?_)
  · have h := wpO_f c5 h
    refine g_vreturn hC hr (dX12_need_16) ?_
    exact wpO_s h
  · have h := wpO_t c5 h
    refine g_aload_n (i := 0) (x := 36) hC (dX12_need_8) rfl rfl ?_
    refine g_aload_n (i := 0) (x := 36) hC (dX12_need_9) rfl rfl ?_
    refine g_getI hC flX12_114 (dX12_need_10) rfl rfl ?_
    refine g_callVv ([.int (M2.1 36 16)]) hC wvX12_136 (dX12_need_13) rfl rfl (by omega) (Nat.le_of_ble_eq_true rfl) (cX12_fault_ok (by omega) (M2.1 36 16) M2 (K := fun r => r = fX12_fault (M2.1 36 16) M2) rfl) (fun N q => ?_)
    subst q
    refine g_nmM (fun M13 e_M13 => ?_)
    have h := wpO_n e_M13 h
    refine g_vreturn hC hr (dX12_need_16) ?_
    exact wpO_s h
/-! LostByStateModel.oneOf(CI)I -/
theorem dX12_oneOf_0 : decode cX12_oneOf 0 = .ok (.aload_n 0, 1) := by decide +kernel
theorem dX12_oneOf_1 : decode cX12_oneOf 1 = .ok (.invokevirtual 124, 3) := by decide +kernel
theorem dX12_oneOf_4 : decode cX12_oneOf 4 = .ok (.ifCond .ne 5, 3) := by decide +kernel
theorem dX12_oneOf_7 : decode cX12_oneOf 7 = .ok (.iconst 0, 1) := by decide +kernel
theorem dX12_oneOf_8 : decode cX12_oneOf 8 = .ok (.ireturn, 1) := by decide +kernel
theorem dX12_oneOf_9 : decode cX12_oneOf 9 = .ok (.aload_n 0, 1) := by decide +kernel
theorem dX12_oneOf_10 : decode cX12_oneOf 10 = .ok (.invokevirtual 128, 3) := by decide +kernel
theorem dX12_oneOf_13 : decode cX12_oneOf 13 = .ok (.iload_n 1, 1) := by decide +kernel
theorem dX12_oneOf_14 : decode cX12_oneOf 14 = .ok (.iload_n 1, 1) := by decide +kernel
theorem dX12_oneOf_15 : decode cX12_oneOf 15 = .ok (.iload_n 2, 1) := by decide +kernel
theorem dX12_oneOf_16 : decode cX12_oneOf 16 = .ok (.iadd, 1) := by decide +kernel
theorem dX12_oneOf_17 : decode cX12_oneOf 17 = .ok (.iconst 1, 1) := by decide +kernel
theorem dX12_oneOf_18 : decode cX12_oneOf 18 = .ok (.isub, 1) := by decide +kernel
theorem dX12_oneOf_19 : decode cX12_oneOf 19 = .ok (.invokestatic 95, 3) := by decide +kernel
theorem dX12_oneOf_22 : decode cX12_oneOf 22 = .ok (.ifCond .ne 13, 3) := by decide +kernel
theorem dX12_oneOf_25 : decode cX12_oneOf 25 = .ok (.aload_n 0, 1) := by decide +kernel
theorem dX12_oneOf_26 : decode cX12_oneOf 26 = .ok (.aload_n 0, 1) := by decide +kernel
theorem dX12_oneOf_27 : decode cX12_oneOf 27 = .ok (.getfield 114, 3) := by decide +kernel
theorem dX12_oneOf_30 : decode cX12_oneOf 30 = .ok (.invokevirtual 136, 3) := by decide +kernel
theorem dX12_oneOf_33 : decode cX12_oneOf 33 = .ok (.iconst 0, 1) := by decide +kernel
theorem dX12_oneOf_34 : decode cX12_oneOf 34 = .ok (.ireturn, 1) := by decide +kernel
theorem dX12_oneOf_35 : decode cX12_oneOf 35 = .ok (.aload_n 0, 1) := by decide +kernel
theorem dX12_oneOf_36 : decode cX12_oneOf 36 = .ok (.dup, 1) := by decide +kernel
theorem dX12_oneOf_37 : decode cX12_oneOf 37 = .ok (.getfield 114, 3) := by decide +kernel
theorem dX12_oneOf_40 : decode cX12_oneOf 40 = .ok (.iconst 1, 1) := by decide +kernel
theorem dX12_oneOf_41 : decode cX12_oneOf 41 = .ok (.iadd, 1) := by decide +kernel
theorem dX12_oneOf_42 : decode cX12_oneOf 42 = .ok (.putfield 114, 3) := by decide +kernel
theorem dX12_oneOf_45 : decode cX12_oneOf 45 = .ok (.aload_n 0, 1) := by decide +kernel
theorem dX12_oneOf_46 : decode cX12_oneOf 46 = .ok (.getfield 105, 3) := by decide +kernel
theorem dX12_oneOf_49 : decode cX12_oneOf 49 = .ok (.aload_n 0, 1) := by decide +kernel
theorem dX12_oneOf_50 : decode cX12_oneOf 50 = .ok (.getfield 114, 3) := by decide +kernel
theorem dX12_oneOf_53 : decode cX12_oneOf 53 = .ok (.iconst 1, 1) := by decide +kernel
theorem dX12_oneOf_54 : decode cX12_oneOf 54 = .ok (.isub, 1) := by decide +kernel
theorem dX12_oneOf_55 : decode cX12_oneOf 55 = .ok (.baload, 1) := by decide +kernel
theorem dX12_oneOf_56 : decode cX12_oneOf 56 = .ok (.iload_n 1, 1) := by decide +kernel
theorem dX12_oneOf_57 : decode cX12_oneOf 57 = .ok (.isub, 1) := by decide +kernel
theorem dX12_oneOf_58 : decode cX12_oneOf 58 = .ok (.ireturn, 1) := by decide +kernel
def fX12_oneOf (x1 : Int32) (x2 : Int32) (M : zM) : Option (Int32 × zM) := if (fX12_fine M) = 0 then (
  some (0, M))
  else (
  (fX12_here M).bind fun (r2 : Int32) =>
  if (fX12_in r2 x1 ((x1 + x2) - 1)) = 0 then (
  zlet (fX12_fault (M.1 36 16) M) fun (M30 : zM) =>
  some (0, M30))
  else (
  zlet (zSI M 36 16 ((M.1 36 16) + 1)) fun (M42 : zM) =>
  (M42.2.2 13).bind fun (a4 : Nat) =>
  if zSH a4 = .inr (3, zLen a4) then (
  if zin ((M42.1 36 16) - 1) (zLen a4) then (
  some ((M42.1 a4 ((M42.1 36 16) - 1).toNatClampNeg) - x1, M42)) else none) else none))
set_option maxHeartbeats 4000000 in
theorem cX12_oneOf_ok {E : zE} {d : Nat} (hd : 2 ≤ d) (x1 : Int32) (x2 : Int32) (M : zM) {K : (Int32 × zM) → Prop} (h : wpO (fX12_oneOf x1 x2 M) K) : CMi E d yX12_oneOf cX12_oneOf 3 (some .int) [.ref 36, .int x1, .int x2] M (fun r N => K (r, N)) := by
  refine CMi.of (by decide) (Nat.le_of_ble_eq_true rfl) (fun Γ hC hr => ?_)
  have hC : Cx E Γ RX12 cX12_oneOf 3 d := hC
  show G E Γ 3 0 [(0, .ref 36), (1, .int x1), (2, .int x2)] [] M
  unfold fX12_oneOf at h
  refine g_aload_n (i := 0) (x := 36) hC (dX12_oneOf_0) rfl rfl ?_
  refine g_callVi ([]) hC wvX12_124 (dX12_oneOf_1) rfl rfl (by omega) (Nat.le_of_ble_eq_true rfl) (cX12_fine_ok (by omega) M (K := fun r => r = fX12_fine M) rfl) (fun r N q => ?_)
  obtain ⟨rfl, rfl⟩ := q
  refine g_if_ne (tgt := 9) hC (dX12_oneOf_4) (by decide) (fun c4 => ?_) (fun c4 => ?_)
  · have h := wpO_f c4 h
    refine g_aload_n (i := 0) (x := 36) hC (dX12_oneOf_9) rfl rfl ?_
    have h := wpO_b h
    refine g_callVi ([]) hC wvX12_128 (dX12_oneOf_10) rfl rfl (by omega) (Nat.le_of_ble_eq_true rfl) (cX12_here_ok (by omega) M h) (fun r2 N q => ?_)
    obtain ⟨rfl, h⟩ := q
    refine g_iload_n (i := 1) (x := x1) hC (dX12_oneOf_13) rfl rfl ?_
    refine g_iload_n (i := 1) (x := x1) hC (dX12_oneOf_14) rfl rfl ?_
    refine g_iload_n (i := 2) (x := x2) hC (dX12_oneOf_15) rfl rfl ?_
    refine g_iadd hC (dX12_oneOf_16) ?_
    refine g_iconst (v := 1) hC (dX12_oneOf_17) kc_1 ?_
    refine g_isub hC (dX12_oneOf_18) ?_
    refine g_callSi ([.int r2, .int x1, .int ((x1 + x2) - 1)]) hC wsX12_95 (dX12_oneOf_19) rfl (by omega) (Nat.le_of_ble_eq_true rfl) (cX12_in_ok (by omega) r2 x1 ((x1 + x2) - 1) M (K := fun r => r = fX12_in r2 x1 ((x1 + x2) - 1)) rfl) (fun r N q => ?_)
    obtain ⟨rfl, rfl⟩ := q
    refine g_if_ne (tgt := 35) hC (dX12_oneOf_22) (by decide) (fun c22 => ?_) (fun c22 => ?_)
    · have h := wpO_f c22 h
      refine g_aload_n (i := 0) (x := 36) hC (dX12_oneOf_35) rfl rfl ?_
      refine g_dup hC (dX12_oneOf_36) rfl ?_
      refine g_getI hC flX12_114 (dX12_oneOf_37) rfl rfl ?_
      refine g_iconst (v := 1) hC (dX12_oneOf_40) kc_1 ?_
      refine g_iadd hC (dX12_oneOf_41) ?_
      refine g_putI hC fpX12_114 (dX12_oneOf_42) rfl rfl rfl rfl ?_
      refine g_nmM (fun M42 e_M42 => ?_)
      have h := wpO_n e_M42 h
      refine g_aload_n (i := 0) (x := 36) hC (dX12_oneOf_45) rfl rfl ?_
      obtain ⟨a4, q5, h⟩ := wpO_d h
      refine g_getD hC flX12_105 (dX12_oneOf_46) rfl rfl q5 ?_
      refine g_aload_n (i := 0) (x := 36) hC (dX12_oneOf_49) rfl rfl ?_
      refine g_getI hC flX12_114 (dX12_oneOf_50) rfl rfl ?_
      refine g_iconst (v := 1) hC (dX12_oneOf_53) kc_1 ?_
      refine g_isub hC (dX12_oneOf_54) ?_
      obtain ⟨q6, h⟩ := wpO_g h
      obtain ⟨q7, h⟩ := wpO_g h
      refine g_baload (n := (zLen a4)) hC (dX12_oneOf_55) q6 q7 ?_
      refine g_iload_n (i := 1) (x := x1) hC (dX12_oneOf_56) rfl rfl ?_
      refine g_isub hC (dX12_oneOf_57) ?_
      refine g_ireturn hC hr (dX12_oneOf_58) ?_
      exact wpO_s h
    · have h := wpO_t c22 h
      refine g_aload_n (i := 0) (x := 36) hC (dX12_oneOf_25) rfl rfl ?_
      refine g_aload_n (i := 0) (x := 36) hC (dX12_oneOf_26) rfl rfl ?_
      refine g_getI hC flX12_114 (dX12_oneOf_27) rfl rfl ?_
      refine g_callVv ([.int (M.1 36 16)]) hC wvX12_136 (dX12_oneOf_30) rfl rfl (by omega) (Nat.le_of_ble_eq_true rfl) (cX12_fault_ok (by omega) (M.1 36 16) M (K := fun r => r = fX12_fault (M.1 36 16) M) rfl) (fun N q => ?_)
      subst q
      refine g_nmM (fun M30 e_M30 => ?_)
      have h := wpO_n e_M30 h
      refine g_iconst (v := 0) hC (dX12_oneOf_33) kc_0 ?_
      refine g_ireturn hC hr (dX12_oneOf_34) ?_
      exact wpO_s h
  · have h := wpO_t c4 h
    refine g_iconst (v := 0) hC (dX12_oneOf_7) kc_0 ?_
    refine g_ireturn hC hr (dX12_oneOf_8) ?_
    exact wpO_s h
/-! LostByStateModel.number(I)I -/
theorem dX12_number_0 : decode cX12_number 0 = .ok (.aload_n 0, 1) := by decide +kernel
theorem dX12_number_1 : decode cX12_number 1 = .ok (.bipush 48, 2) := by decide +kernel
theorem dX12_number_3 : decode cX12_number 3 = .ok (.bipush 10, 2) := by decide +kernel
theorem dX12_number_5 : decode cX12_number 5 = .ok (.invokevirtual 140, 3) := by decide +kernel
theorem dX12_number_8 : decode cX12_number 8 = .ok (.istore_n 2, 1) := by decide +kernel
theorem dX12_number_9 : decode cX12_number 9 = .ok (.iconst 1, 1) := by decide +kernel
theorem dX12_number_10 : decode cX12_number 10 = .ok (.istore_n 3, 1) := by decide +kernel
theorem dX12_number_11 : decode cX12_number 11 = .ok (.iload_n 3, 1) := by decide +kernel
theorem dX12_number_12 : decode cX12_number 12 = .ok (.iload_n 1, 1) := by decide +kernel
theorem dX12_number_13 : decode cX12_number 13 = .ok (.if_icmp .ge 44, 3) := by decide +kernel
theorem dX12_number_16 : decode cX12_number 16 = .ok (.aload_n 0, 1) := by decide +kernel
theorem dX12_number_17 : decode cX12_number 17 = .ok (.invokevirtual 124, 3) := by decide +kernel
theorem dX12_number_20 : decode cX12_number 20 = .ok (.ifCond .eq 37, 3) := by decide +kernel
theorem dX12_number_23 : decode cX12_number 23 = .ok (.aload_n 0, 1) := by decide +kernel
theorem dX12_number_24 : decode cX12_number 24 = .ok (.invokevirtual 128, 3) := by decide +kernel
theorem dX12_number_27 : decode cX12_number 27 = .ok (.bipush 48, 2) := by decide +kernel
theorem dX12_number_29 : decode cX12_number 29 = .ok (.bipush 57, 2) := by decide +kernel
theorem dX12_number_31 : decode cX12_number 31 = .ok (.invokestatic 95, 3) := by decide +kernel
theorem dX12_number_34 : decode cX12_number 34 = .ok (.ifCond .eq 23, 3) := by decide +kernel
theorem dX12_number_37 : decode cX12_number 37 = .ok (.bipush 10, 2) := by decide +kernel
theorem dX12_number_39 : decode cX12_number 39 = .ok (.iload_n 2, 1) := by decide +kernel
theorem dX12_number_40 : decode cX12_number 40 = .ok (.imul, 1) := by decide +kernel
theorem dX12_number_41 : decode cX12_number 41 = .ok (.aload_n 0, 1) := by decide +kernel
theorem dX12_number_42 : decode cX12_number 42 = .ok (.bipush 48, 2) := by decide +kernel
theorem dX12_number_44 : decode cX12_number 44 = .ok (.bipush 10, 2) := by decide +kernel
theorem dX12_number_46 : decode cX12_number 46 = .ok (.invokevirtual 140, 3) := by decide +kernel
theorem dX12_number_49 : decode cX12_number 49 = .ok (.iadd, 1) := by decide +kernel
theorem dX12_number_50 : decode cX12_number 50 = .ok (.istore_n 2, 1) := by decide +kernel
theorem dX12_number_51 : decode cX12_number 51 = .ok (.iinc 3 1, 3) := by decide +kernel
theorem dX12_number_54 : decode cX12_number 54 = .ok (.goto (-43), 3) := by decide +kernel
theorem dX12_number_57 : decode cX12_number 57 = .ok (.iload_n 2, 1) := by decide +kernel
theorem dX12_number_58 : decode cX12_number 58 = .ok (.ireturn, 1) := by decide +kernel
def fX12_number_L11 (x1 : Int32) : Nat → Int32 → Int32 → zM → Option (Int32 × zM)
  | 0, _, _, _ => none
  | n + 1, x2, x3, M => if x1 ≤ x3 then (
    some (x2, M))
    else (
    if (fX12_fine M) = 0 then (
    some (x2, M))
    else (
    (fX12_here M).bind fun (r3 : Int32) =>
    if (fX12_in r3 48 57) = 0 then (
    some (x2, M))
    else (
    (fX12_oneOf 48 10 M).bind fun (q : Int32 × zM) => zp q fun r5 M46 =>
    zlet ((10 * x2) + r5) fun (x2_50 : Int32) =>
    fX12_number_L11 x1 n x2_50 (x3 + 1) M46)))
def fX12_number (x1 : Int32) (M : zM) : Option (Int32 × zM) := (fX12_oneOf 48 10 M).bind fun (q : Int32 × zM) => zp q fun r1 M5 =>
  (fX12_number_L11 x1 4000 r1 1 M5).bind fun (q : Int32 × zM) => zp q fun x2_57 M_57 =>
  some (x2_57, M_57)
set_option maxHeartbeats 4000000 in
theorem lX12_number_11 {E : zE} {Γ : zT} {d : Nat} {K1 : (Int32 × zM) → Prop} (hC : Cx E Γ RX12 cX12_number 4 d) (hd : 3 ≤ d) (x1 : Int32) (hx : ∀ (x2_57 : Int32) (M_57 : zM), K1 (x2_57, M_57) → G E Γ 4 57 [(2, .int x2_57)] [] M_57) :
    ∀ (n : Nat) (x2 : Int32) (x3 : Int32) (M : zM), wpO (fX12_number_L11 x1 n x2 x3 M) K1 → G E Γ 4 11 [(0, .ref 36), (1, .int x1), (2, .int x2), (3, .int x3)] [] M := by
  intro n
  induction n with
  | zero =>
    intro x2 x3 M h
    exact (wpO_0 h).elim
  | succ n ih =>
    intro x2 x3 M h
    rw [fX12_number_L11.eq_2] at h
    refine g_iload_n (i := 3) (x := x3) hC (dX12_number_11) rfl rfl ?_
    refine g_iload_n (i := 1) (x := x1) hC (dX12_number_12) rfl rfl ?_
    refine g_icmp_ge (tgt := 57) hC (dX12_number_13) (by decide) (fun c13 => ?_) (fun c13 => ?_)
    · have h := wpO_t c13 h
      refine g_sub (lv' := [(2, .int x2)]) [2] rfl ?_
      exact hx _ _ (wpO_s h)
    · have h := wpO_f c13 h
      refine g_aload_n (i := 0) (x := 36) hC (dX12_number_16) rfl rfl ?_
      refine g_callVi ([]) hC wvX12_124 (dX12_number_17) rfl rfl (by omega) (Nat.le_of_ble_eq_true rfl) (cX12_fine_ok (by omega) M (K := fun r => r = fX12_fine M) rfl) (fun r N q => ?_)
      obtain ⟨rfl, rfl⟩ := q
      refine g_if_eq (tgt := 57) hC (dX12_number_20) (by decide) (fun c20 => ?_) (fun c20 => ?_)
      · have h := wpO_t c20 h
        refine g_sub (lv' := [(2, .int x2)]) [2] rfl ?_
        exact hx _ _ (wpO_s h)
      · have h := wpO_f c20 h
        refine g_aload_n (i := 0) (x := 36) hC (dX12_number_23) rfl rfl ?_
        have h := wpO_b h
        refine g_callVi ([]) hC wvX12_128 (dX12_number_24) rfl rfl (by omega) (Nat.le_of_ble_eq_true rfl) (cX12_here_ok (by omega) M h) (fun r3 N q => ?_)
        obtain ⟨rfl, h⟩ := q
        refine g_bipush (v := 48) hC (dX12_number_27) kb_48 ?_
        refine g_bipush (v := 57) hC (dX12_number_29) kb_57 ?_
        refine g_callSi ([.int r3, .int 48, .int 57]) hC wsX12_95 (dX12_number_31) rfl (by omega) (Nat.le_of_ble_eq_true rfl) (cX12_in_ok (by omega) r3 48 57 M (K := fun r => r = fX12_in r3 48 57) rfl) (fun r N q => ?_)
        obtain ⟨rfl, rfl⟩ := q
        refine g_if_eq (tgt := 57) hC (dX12_number_34) (by decide) (fun c34 => ?_) (fun c34 => ?_)
        · have h := wpO_t c34 h
          refine g_sub (lv' := [(2, .int x2)]) [2] rfl ?_
          exact hx _ _ (wpO_s h)
        · have h := wpO_f c34 h
          refine g_bipush (v := 10) hC (dX12_number_37) kb_10 ?_
          refine g_iload_n (i := 2) (x := x2) hC (dX12_number_39) rfl rfl ?_
          refine g_imul hC (dX12_number_40) ?_
          refine g_aload_n (i := 0) (x := 36) hC (dX12_number_41) rfl rfl ?_
          refine g_bipush (v := 48) hC (dX12_number_42) kb_48 ?_
          refine g_bipush (v := 10) hC (dX12_number_44) kb_10 ?_
          have h := wpO_b h
          refine g_callVi ([.int 48, .int 10]) hC wvX12_140 (dX12_number_46) rfl rfl (by omega) (Nat.le_of_ble_eq_true rfl) (cX12_oneOf_ok (by omega) 48 10 M h) (fun r5 M46 h => ?_)
          have h := wpO_p h
          refine g_iadd hC (dX12_number_49) ?_
          refine g_nmi (fun x2_50 e_x2_50 => ?_)
          have h := wpO_n e_x2_50 h
          refine g_istore_n (i := 2) (lv2 := [(2, .int x2_50), (0, .ref 36), (1, .int x1), (3, .int x3)]) hC (dX12_number_50) rfl (by decide) rfl ?_
          refine g_iinc (x := x3) (v := (x3 + 1)) (lv2 := [(3, .int (x3 + 1)), (2, .int x2_50), (0, .ref 36), (1, .int x1)]) hC (dX12_number_51) rfl rfl (by decide) rfl ?_
          refine g_goto (tgt := 11) hC (dX12_number_54) (by decide) ?_
          refine g_sub (lv' := [(0, .ref 36), (1, .int x1), (2, .int x2_50), (3, .int (x3 + 1))]) [2, 3, 1, 0] rfl ?_
          exact ih _ _ _ h
set_option maxHeartbeats 4000000 in
theorem cX12_number_ok {E : zE} {d : Nat} (hd : 3 ≤ d) (x1 : Int32) (M : zM) {K : (Int32 × zM) → Prop} (h : wpO (fX12_number x1 M) K) : CMi E d yX12_number cX12_number 4 (some .int) [.ref 36, .int x1] M (fun r N => K (r, N)) := by
  refine CMi.of (by decide) (Nat.le_of_ble_eq_true rfl) (fun Γ hC hr => ?_)
  have hC : Cx E Γ RX12 cX12_number 4 d := hC
  show G E Γ 4 0 [(0, .ref 36), (1, .int x1)] [] M
  unfold fX12_number at h
  refine g_aload_n (i := 0) (x := 36) hC (dX12_number_0) rfl rfl ?_
  refine g_bipush (v := 48) hC (dX12_number_1) kb_48 ?_
  refine g_bipush (v := 10) hC (dX12_number_3) kb_10 ?_
  have h := wpO_b h
  refine g_callVi ([.int 48, .int 10]) hC wvX12_140 (dX12_number_5) rfl rfl (by omega) (Nat.le_of_ble_eq_true rfl) (cX12_oneOf_ok (by omega) 48 10 M h) (fun r1 M5 h => ?_)
  have h := wpO_p h
  refine g_istore_n (i := 2) (lv2 := [(2, .int r1), (0, .ref 36), (1, .int x1)]) hC (dX12_number_8) rfl (by decide) rfl ?_
  refine g_iconst (v := 1) hC (dX12_number_9) kc_1 ?_
  refine g_istore_n (i := 3) (lv2 := [(3, .int 1), (2, .int r1), (0, .ref 36), (1, .int x1)]) hC (dX12_number_10) rfl (by decide) rfl ?_
  refine g_sub (lv' := [(0, .ref 36), (1, .int x1), (2, .int r1), (3, .int 1)]) [2, 3, 1, 0] rfl ?_
  refine wpO_bJ h (fun KL11 hKL11 h => ?_)
  refine lX12_number_11 (K1 := KL11) hC (by omega) x1 (fun x2_57 M_57 h => ?_) _ _ _ _ h
  have h := hKL11 _ h
  have h := wpO_p h
  refine g_iload_n (i := 2) (x := x2_57) hC (dX12_number_57) rfl rfl ?_
  refine g_ireturn hC hr (dX12_number_58) ?_
  exact wpO_s h
/-! LostByStateModel.wasRight()Z -/
theorem dX12_wasRight_0 : decode cX12_wasRight 0 = .ok (.aload_n 0, 1) := by decide +kernel
theorem dX12_wasRight_1 : decode cX12_wasRight 1 = .ok (.getfield 114, 3) := by decide +kernel
theorem dX12_wasRight_4 : decode cX12_wasRight 4 = .ok (.aload_n 0, 1) := by decide +kernel
theorem dX12_wasRight_5 : decode cX12_wasRight 5 = .ok (.getfield 108, 3) := by decide +kernel
theorem dX12_wasRight_8 : decode cX12_wasRight 8 = .ok (.if_icmp .ge 11, 3) := by decide +kernel
theorem dX12_wasRight_11 : decode cX12_wasRight 11 = .ok (.aload_n 0, 1) := by decide +kernel
theorem dX12_wasRight_12 : decode cX12_wasRight 12 = .ok (.aload_n 0, 1) := by decide +kernel
theorem dX12_wasRight_13 : decode cX12_wasRight 13 = .ok (.getfield 114, 3) := by decide +kernel
theorem dX12_wasRight_16 : decode cX12_wasRight 16 = .ok (.invokevirtual 136, 3) := by decide +kernel
theorem dX12_wasRight_19 : decode cX12_wasRight 19 = .ok (.aload_n 0, 1) := by decide +kernel
theorem dX12_wasRight_20 : decode cX12_wasRight 20 = .ok (.invokevirtual 124, 3) := by decide +kernel
theorem dX12_wasRight_23 : decode cX12_wasRight 23 = .ok (.ireturn, 1) := by decide +kernel
def fX12_wasRight  (M : zM) : Int32 × zM := zlet (if (M.1 36 14) ≤ (M.1 36 16) then (
  M)
  else (
  zlet (fX12_fault (M.1 36 16) M) fun (M16 : zM) =>
  M16)) fun (M_19 : zM) =>
  (fX12_fine M_19, M_19)
theorem bX12_wasRight  (M : zM) : (fX12_wasRight  M).1 = 0 ∨ (fX12_wasRight  M).1 = 1 := by
  unfold fX12_wasRight
  try simp only [zlet, zp, zj]
  repeat' split
  all_goals first | exact Or.inl rfl | exact Or.inr rfl | (simp; done) | apply bX12_fine
set_option maxHeartbeats 4000000 in
theorem cX12_wasRight_ok {E : zE} {d : Nat} (hd : 2 ≤ d)  (M : zM) {K : (Int32 × zM) → Prop} (h : wpI (fX12_wasRight  M) K) : CMi E d yX12_wasRight cX12_wasRight 1 (some .boolean) [.ref 36] M (fun r N => K (r, N)) := by
  refine CMi.of (by decide) (Nat.le_of_ble_eq_true rfl) (fun Γ hC hr => ?_)
  have hC : Cx E Γ RX12 cX12_wasRight 1 d := hC
  show G E Γ 1 0 [(0, .ref 36)] [] M
  unfold fX12_wasRight at h
  refine g_aload_n (i := 0) (x := 36) hC (dX12_wasRight_0) rfl rfl ?_
  refine g_getI hC flX12_114 (dX12_wasRight_1) rfl rfl ?_
  refine g_aload_n (i := 0) (x := 36) hC (dX12_wasRight_4) rfl rfl ?_
  refine g_getI hC flX12_108 (dX12_wasRight_5) rfl rfl ?_
  obtain ⟨M_19, e_M_19, h⟩ := wpI_l h
  have hJ1 : G E Γ 1 19 [(0, .ref 36)] [] M_19 := by
    refine g_aload_n (i := 0) (x := 36) hC (dX12_wasRight_19) rfl rfl ?_
    refine g_callVi ([]) hC wvX12_124 (dX12_wasRight_20) rfl rfl (by omega) (Nat.le_of_ble_eq_true rfl) (cX12_fine_ok (by omega) M_19 (K := fun r => r = fX12_fine M_19) rfl) (fun r N q => ?_)
    obtain ⟨rfl, rfl⟩ := q
    refine g_zreturn hC hr (dX12_wasRight_23) (bX12_fine M_19) ?_
    exact wpI_s h
  refine g_icmp_ge (tgt := 19) hC (dX12_wasRight_8) (by decide) (fun c8 => ?_) (fun c8 => ?_)
  · rw [if_pos c8] at e_M_19
    subst e_M_19
    exact hJ1
  · rw [if_neg c8] at e_M_19
    refine g_aload_n (i := 0) (x := 36) hC (dX12_wasRight_11) rfl rfl ?_
    refine g_aload_n (i := 0) (x := 36) hC (dX12_wasRight_12) rfl rfl ?_
    refine g_getI hC flX12_114 (dX12_wasRight_13) rfl rfl ?_
    refine g_callVv ([.int (M.1 36 16)]) hC wvX12_136 (dX12_wasRight_16) rfl rfl (by omega) (Nat.le_of_ble_eq_true rfl) (cX12_fault_ok (by omega) (M.1 36 16) M (K := fun r => r = fX12_fault (M.1 36 16) M) rfl) (fun N q => ?_)
    subst q
    refine g_nmM (fun M16 e_M16 => ?_)
    have e_M_19 := zle e_M16 e_M_19
    subst e_M_19
    exact hJ1
/-! LostByStateModel.rising(II)I -/
theorem dX12_rising_0 : decode cX12_rising 0 = .ok (.iconst 0, 1) := by decide +kernel
theorem dX12_rising_1 : decode cX12_rising 1 = .ok (.istore_n 3, 1) := by decide +kernel
theorem dX12_rising_2 : decode cX12_rising 2 = .ok (.iconst (-1), 1) := by decide +kernel
theorem dX12_rising_3 : decode cX12_rising 3 = .ok (.istore 4, 2) := by decide +kernel
theorem dX12_rising_5 : decode cX12_rising 5 = .ok (.aload_n 0, 1) := by decide +kernel
theorem dX12_rising_6 : decode cX12_rising 6 = .ok (.invokevirtual 124, 3) := by decide +kernel
theorem dX12_rising_9 : decode cX12_rising 9 = .ok (.ifCond .eq 76, 3) := by decide +kernel
theorem dX12_rising_12 : decode cX12_rising 12 = .ok (.aload_n 0, 1) := by decide +kernel
theorem dX12_rising_13 : decode cX12_rising 13 = .ok (.invokevirtual 128, 3) := by decide +kernel
theorem dX12_rising_16 : decode cX12_rising 16 = .ok (.iload_n 1, 1) := by decide +kernel
theorem dX12_rising_17 : decode cX12_rising 17 = .ok (.iload_n 1, 1) := by decide +kernel
theorem dX12_rising_18 : decode cX12_rising 18 = .ok (.bipush 8, 2) := by decide +kernel
theorem dX12_rising_20 : decode cX12_rising 20 = .ok (.iadd, 1) := by decide +kernel
theorem dX12_rising_21 : decode cX12_rising 21 = .ok (.iconst 1, 1) := by decide +kernel
theorem dX12_rising_22 : decode cX12_rising 22 = .ok (.isub, 1) := by decide +kernel
theorem dX12_rising_23 : decode cX12_rising 23 = .ok (.invokestatic 95, 3) := by decide +kernel
theorem dX12_rising_26 : decode cX12_rising 26 = .ok (.ifCond .eq 59, 3) := by decide +kernel
theorem dX12_rising_29 : decode cX12_rising 29 = .ok (.aload_n 0, 1) := by decide +kernel
theorem dX12_rising_30 : decode cX12_rising 30 = .ok (.invokevirtual 128, 3) := by decide +kernel
theorem dX12_rising_33 : decode cX12_rising 33 = .ok (.iload_n 1, 1) := by decide +kernel
theorem dX12_rising_34 : decode cX12_rising 34 = .ok (.isub, 1) := by decide +kernel
theorem dX12_rising_35 : decode cX12_rising 35 = .ok (.istore 5, 2) := by decide +kernel
theorem dX12_rising_37 : decode cX12_rising 37 = .ok (.iload 5, 2) := by decide +kernel
theorem dX12_rising_39 : decode cX12_rising 39 = .ok (.iload 4, 2) := by decide +kernel
theorem dX12_rising_41 : decode cX12_rising 41 = .ok (.if_icmp .le 9, 3) := by decide +kernel
theorem dX12_rising_44 : decode cX12_rising 44 = .ok (.iload 5, 2) := by decide +kernel
theorem dX12_rising_46 : decode cX12_rising 46 = .ok (.iload_n 2, 1) := by decide +kernel
theorem dX12_rising_47 : decode cX12_rising 47 = .ok (.if_icmp .lt 14, 3) := by decide +kernel
theorem dX12_rising_50 : decode cX12_rising 50 = .ok (.aload_n 0, 1) := by decide +kernel
theorem dX12_rising_51 : decode cX12_rising 51 = .ok (.aload_n 0, 1) := by decide +kernel
theorem dX12_rising_52 : decode cX12_rising 52 = .ok (.getfield 114, 3) := by decide +kernel
theorem dX12_rising_55 : decode cX12_rising 55 = .ok (.invokevirtual 136, 3) := by decide +kernel
theorem dX12_rising_58 : decode cX12_rising 58 = .ok (.goto 24, 3) := by decide +kernel
theorem dX12_rising_61 : decode cX12_rising 61 = .ok (.aload_n 0, 1) := by decide +kernel
theorem dX12_rising_62 : decode cX12_rising 62 = .ok (.dup, 1) := by decide +kernel
theorem dX12_rising_63 : decode cX12_rising 63 = .ok (.getfield 114, 3) := by decide +kernel
theorem dX12_rising_66 : decode cX12_rising 66 = .ok (.iconst 1, 1) := by decide +kernel
theorem dX12_rising_67 : decode cX12_rising 67 = .ok (.iadd, 1) := by decide +kernel
theorem dX12_rising_68 : decode cX12_rising 68 = .ok (.putfield 114, 3) := by decide +kernel
theorem dX12_rising_71 : decode cX12_rising 71 = .ok (.iload_n 3, 1) := by decide +kernel
theorem dX12_rising_72 : decode cX12_rising 72 = .ok (.iconst 1, 1) := by decide +kernel
theorem dX12_rising_73 : decode cX12_rising 73 = .ok (.iload 5, 2) := by decide +kernel
theorem dX12_rising_75 : decode cX12_rising 75 = .ok (.ishl, 1) := by decide +kernel
theorem dX12_rising_76 : decode cX12_rising 76 = .ok (.ior, 1) := by decide +kernel
theorem dX12_rising_77 : decode cX12_rising 77 = .ok (.istore_n 3, 1) := by decide +kernel
theorem dX12_rising_78 : decode cX12_rising 78 = .ok (.iload 5, 2) := by decide +kernel
theorem dX12_rising_80 : decode cX12_rising 80 = .ok (.istore 4, 2) := by decide +kernel
theorem dX12_rising_82 : decode cX12_rising 82 = .ok (.goto (-77), 3) := by decide +kernel
theorem dX12_rising_85 : decode cX12_rising 85 = .ok (.iload_n 3, 1) := by decide +kernel
theorem dX12_rising_86 : decode cX12_rising 86 = .ok (.ireturn, 1) := by decide +kernel
def fX12_rising_L5 (x1 : Int32) (x2 : Int32) : Nat → Int32 → Int32 → zM → Option (Int32 × zM)
  | 0, _, _, _ => none
  | n + 1, x3, x4, M => if (fX12_fine M) = 0 then (
    some (x3, M))
    else (
    (fX12_here M).bind fun (r2 : Int32) =>
    if (fX12_in r2 x1 ((x1 + 8) - 1)) = 0 then (
    some (x3, M))
    else (
    (fX12_here M).bind fun (r4 : Int32) =>
    zlet (r4 - x1) fun (x5_35 : Int32) =>
    zlet (if x5_35 ≤ x4 then (
    zlet (fX12_fault (M.1 36 16) M) fun (M55 : zM) =>
    x3)
    else (
    if x5_35 < x2 then (
    zlet (zSI M 36 16 ((M.1 36 16) + 1)) fun (M68 : zM) =>
    zlet (x3 ||| (zshl 1 x5_35)) fun (x3_77 : Int32) =>
    x3_77)
    else (
    zlet (fX12_fault (M.1 36 16) M) fun (M55 : zM) =>
    x3))) fun (x3_82 : Int32) =>
    zlet (if x5_35 ≤ x4 then (
    zlet (fX12_fault (M.1 36 16) M) fun (M55 : zM) =>
    x4)
    else (
    if x5_35 < x2 then (
    zlet (zSI M 36 16 ((M.1 36 16) + 1)) fun (M68 : zM) =>
    zlet (x3 ||| (zshl 1 x5_35)) fun (x3_77 : Int32) =>
    x5_35)
    else (
    zlet (fX12_fault (M.1 36 16) M) fun (M55 : zM) =>
    x4))) fun (x4_82 : Int32) =>
    zlet (if x5_35 ≤ x4 then (
    zlet (fX12_fault (M.1 36 16) M) fun (M55 : zM) =>
    M55)
    else (
    if x5_35 < x2 then (
    zlet (zSI M 36 16 ((M.1 36 16) + 1)) fun (M68 : zM) =>
    zlet (x3 ||| (zshl 1 x5_35)) fun (x3_77 : Int32) =>
    M68)
    else (
    zlet (fX12_fault (M.1 36 16) M) fun (M55 : zM) =>
    M55))) fun (M_82 : zM) =>
    fX12_rising_L5 x1 x2 n x3_82 x4_82 M_82))
def fX12_rising (x1 : Int32) (x2 : Int32) (M : zM) : Option (Int32 × zM) := (fX12_rising_L5 x1 x2 4000 0 (-1) M).bind fun (q : Int32 × zM) => zp q fun x3_85 M_85 =>
  some (x3_85, M_85)
set_option maxHeartbeats 4000000 in
theorem lX12_rising_5 {E : zE} {Γ : zT} {d : Nat} {K1 : (Int32 × zM) → Prop} (hC : Cx E Γ RX12 cX12_rising 6 d) (hd : 2 ≤ d) (x1 : Int32) (x2 : Int32) (hx : ∀ (x3_85 : Int32) (M_85 : zM), K1 (x3_85, M_85) → G E Γ 6 85 [(3, .int x3_85)] [] M_85) :
    ∀ (n : Nat) (x3 : Int32) (x4 : Int32) (M : zM), wpO (fX12_rising_L5 x1 x2 n x3 x4 M) K1 → G E Γ 6 5 [(0, .ref 36), (1, .int x1), (2, .int x2), (3, .int x3), (4, .int x4)] [] M := by
  intro n
  induction n with
  | zero =>
    intro x3 x4 M h
    exact (wpO_0 h).elim
  | succ n ih =>
    intro x3 x4 M h
    rw [fX12_rising_L5.eq_2] at h
    refine g_aload_n (i := 0) (x := 36) hC (dX12_rising_5) rfl rfl ?_
    refine g_callVi ([]) hC wvX12_124 (dX12_rising_6) rfl rfl (by omega) (Nat.le_of_ble_eq_true rfl) (cX12_fine_ok (by omega) M (K := fun r => r = fX12_fine M) rfl) (fun r N q => ?_)
    obtain ⟨rfl, rfl⟩ := q
    refine g_if_eq (tgt := 85) hC (dX12_rising_9) (by decide) (fun c9 => ?_) (fun c9 => ?_)
    · have h := wpO_t c9 h
      refine g_sub (lv' := [(3, .int x3)]) [3] rfl ?_
      exact hx _ _ (wpO_s h)
    · have h := wpO_f c9 h
      refine g_aload_n (i := 0) (x := 36) hC (dX12_rising_12) rfl rfl ?_
      have h := wpO_b h
      refine g_callVi ([]) hC wvX12_128 (dX12_rising_13) rfl rfl (by omega) (Nat.le_of_ble_eq_true rfl) (cX12_here_ok (by omega) M h) (fun r2 N q => ?_)
      obtain ⟨rfl, h⟩ := q
      refine g_iload_n (i := 1) (x := x1) hC (dX12_rising_16) rfl rfl ?_
      refine g_iload_n (i := 1) (x := x1) hC (dX12_rising_17) rfl rfl ?_
      refine g_bipush (v := 8) hC (dX12_rising_18) kb_8 ?_
      refine g_iadd hC (dX12_rising_20) ?_
      refine g_iconst (v := 1) hC (dX12_rising_21) kc_1 ?_
      refine g_isub hC (dX12_rising_22) ?_
      refine g_callSi ([.int r2, .int x1, .int ((x1 + 8) - 1)]) hC wsX12_95 (dX12_rising_23) rfl (by omega) (Nat.le_of_ble_eq_true rfl) (cX12_in_ok (by omega) r2 x1 ((x1 + 8) - 1) M (K := fun r => r = fX12_in r2 x1 ((x1 + 8) - 1)) rfl) (fun r N q => ?_)
      obtain ⟨rfl, rfl⟩ := q
      refine g_if_eq (tgt := 85) hC (dX12_rising_26) (by decide) (fun c26 => ?_) (fun c26 => ?_)
      · have h := wpO_t c26 h
        refine g_sub (lv' := [(3, .int x3)]) [3] rfl ?_
        exact hx _ _ (wpO_s h)
      · have h := wpO_f c26 h
        refine g_aload_n (i := 0) (x := 36) hC (dX12_rising_29) rfl rfl ?_
        have h := wpO_b h
        refine g_callVi ([]) hC wvX12_128 (dX12_rising_30) rfl rfl (by omega) (Nat.le_of_ble_eq_true rfl) (cX12_here_ok (by omega) M h) (fun r4 N q => ?_)
        obtain ⟨rfl, h⟩ := q
        refine g_iload_n (i := 1) (x := x1) hC (dX12_rising_33) rfl rfl ?_
        refine g_isub hC (dX12_rising_34) ?_
        refine g_nmi (fun x5_35 e_x5_35 => ?_)
        have h := wpO_n e_x5_35 h
        refine g_istore (i := 5) (lv2 := [(5, .int x5_35), (0, .ref 36), (1, .int x1), (2, .int x2), (3, .int x3), (4, .int x4)]) hC (dX12_rising_35) (by decide) rfl ?_
        refine g_iload (i := 5) (x := x5_35) hC (dX12_rising_37) rfl ?_
        refine g_iload (i := 4) (x := x4) hC (dX12_rising_39) rfl ?_
        obtain ⟨x3_82, e_x3_82, h⟩ := wpO_l h
        obtain ⟨x4_82, e_x4_82, h⟩ := wpO_l h
        obtain ⟨M_82, e_M_82, h⟩ := wpO_l h
        have hJ5 : G E Γ 6 82 [(0, .ref 36), (1, .int x1), (2, .int x2), (3, .int x3_82), (4, .int x4_82)] [] M_82 := by
          refine g_goto (tgt := 5) hC (dX12_rising_82) (by decide) ?_
          exact ih _ _ _ h
        refine g_icmp_le (tgt := 50) hC (dX12_rising_41) (by decide) (fun c41 => ?_) (fun c41 => ?_)
        · rw [if_pos c41] at e_x3_82 e_x4_82 e_M_82
          refine g_aload_n (i := 0) (x := 36) hC (dX12_rising_50) rfl rfl ?_
          refine g_aload_n (i := 0) (x := 36) hC (dX12_rising_51) rfl rfl ?_
          refine g_getI hC flX12_114 (dX12_rising_52) rfl rfl ?_
          refine g_callVv ([.int (M.1 36 16)]) hC wvX12_136 (dX12_rising_55) rfl rfl (by omega) (Nat.le_of_ble_eq_true rfl) (cX12_fault_ok (by omega) (M.1 36 16) M (K := fun r => r = fX12_fault (M.1 36 16) M) rfl) (fun N q => ?_)
          subst q
          refine g_nmM (fun M55 e_M55 => ?_)
          have e_x3_82 := zle e_M55 e_x3_82
          have e_x4_82 := zle e_M55 e_x4_82
          have e_M_82 := zle e_M55 e_M_82
          refine g_goto (tgt := 82) hC (dX12_rising_58) (by decide) ?_
          refine g_sub (lv' := [(0, .ref 36), (1, .int x1), (2, .int x2), (3, .int x3), (4, .int x4)]) [1, 2, 3, 4, 5] rfl ?_
          subst e_x3_82
          subst e_x4_82
          subst e_M_82
          exact hJ5
        · rw [if_neg c41] at e_x3_82 e_x4_82 e_M_82
          refine g_iload (i := 5) (x := x5_35) hC (dX12_rising_44) rfl ?_
          refine g_iload_n (i := 2) (x := x2) hC (dX12_rising_46) rfl rfl ?_
          refine g_icmp_lt (tgt := 61) hC (dX12_rising_47) (by decide) (fun c47 => ?_) (fun c47 => ?_)
          · rw [if_pos c47] at e_x3_82 e_x4_82 e_M_82
            refine g_aload_n (i := 0) (x := 36) hC (dX12_rising_61) rfl rfl ?_
            refine g_dup hC (dX12_rising_62) rfl ?_
            refine g_getI hC flX12_114 (dX12_rising_63) rfl rfl ?_
            refine g_iconst (v := 1) hC (dX12_rising_66) kc_1 ?_
            refine g_iadd hC (dX12_rising_67) ?_
            refine g_putI hC fpX12_114 (dX12_rising_68) rfl rfl rfl rfl ?_
            refine g_nmM (fun M68 e_M68 => ?_)
            have e_x3_82 := zle e_M68 e_x3_82
            have e_x4_82 := zle e_M68 e_x4_82
            have e_M_82 := zle e_M68 e_M_82
            refine g_iload_n (i := 3) (x := x3) hC (dX12_rising_71) rfl rfl ?_
            refine g_iconst (v := 1) hC (dX12_rising_72) kc_1 ?_
            refine g_iload (i := 5) (x := x5_35) hC (dX12_rising_73) rfl ?_
            refine g_ishl hC (dX12_rising_75) ?_
            refine g_ior hC (dX12_rising_76) ?_
            refine g_nmi (fun x3_77 e_x3_77 => ?_)
            have e_x3_82 := zle e_x3_77 e_x3_82
            have e_x4_82 := zle e_x3_77 e_x4_82
            have e_M_82 := zle e_x3_77 e_M_82
            refine g_istore_n (i := 3) (lv2 := [(3, .int x3_77), (5, .int x5_35), (0, .ref 36), (1, .int x1), (2, .int x2), (4, .int x4)]) hC (dX12_rising_77) rfl (by decide) rfl ?_
            refine g_iload (i := 5) (x := x5_35) hC (dX12_rising_78) rfl ?_
            refine g_istore (i := 4) (lv2 := [(4, .int x5_35), (3, .int x3_77), (5, .int x5_35), (0, .ref 36), (1, .int x1), (2, .int x2)]) hC (dX12_rising_80) (by decide) rfl ?_
            refine g_sub (lv' := [(0, .ref 36), (1, .int x1), (2, .int x2), (3, .int x3_77), (4, .int x5_35)]) [3, 4, 5, 1, 0] rfl ?_
            subst e_x3_82
            subst e_x4_82
            subst e_M_82
            exact hJ5
          · rw [if_neg c47] at e_x3_82 e_x4_82 e_M_82
            refine g_aload_n (i := 0) (x := 36) hC (dX12_rising_50) rfl rfl ?_
            refine g_aload_n (i := 0) (x := 36) hC (dX12_rising_51) rfl rfl ?_
            refine g_getI hC flX12_114 (dX12_rising_52) rfl rfl ?_
            refine g_callVv ([.int (M.1 36 16)]) hC wvX12_136 (dX12_rising_55) rfl rfl (by omega) (Nat.le_of_ble_eq_true rfl) (cX12_fault_ok (by omega) (M.1 36 16) M (K := fun r => r = fX12_fault (M.1 36 16) M) rfl) (fun N q => ?_)
            subst q
            refine g_nmM (fun M55 e_M55 => ?_)
            have e_x3_82 := zle e_M55 e_x3_82
            have e_x4_82 := zle e_M55 e_x4_82
            have e_M_82 := zle e_M55 e_M_82
            refine g_goto (tgt := 82) hC (dX12_rising_58) (by decide) ?_
            refine g_sub (lv' := [(0, .ref 36), (1, .int x1), (2, .int x2), (3, .int x3), (4, .int x4)]) [1, 2, 3, 4, 5] rfl ?_
            subst e_x3_82
            subst e_x4_82
            subst e_M_82
            exact hJ5
set_option maxHeartbeats 4000000 in
theorem cX12_rising_ok {E : zE} {d : Nat} (hd : 2 ≤ d) (x1 : Int32) (x2 : Int32) (M : zM) {K : (Int32 × zM) → Prop} (h : wpO (fX12_rising x1 x2 M) K) : CMi E d yX12_rising cX12_rising 6 (some .int) [.ref 36, .int x1, .int x2] M (fun r N => K (r, N)) := by
  refine CMi.of (by decide) (Nat.le_of_ble_eq_true rfl) (fun Γ hC hr => ?_)
  have hC : Cx E Γ RX12 cX12_rising 6 d := hC
  show G E Γ 6 0 [(0, .ref 36), (1, .int x1), (2, .int x2)] [] M
  unfold fX12_rising at h
  refine g_iconst (v := 0) hC (dX12_rising_0) kc_0 ?_
  refine g_istore_n (i := 3) (lv2 := [(3, .int 0), (0, .ref 36), (1, .int x1), (2, .int x2)]) hC (dX12_rising_1) rfl (by decide) rfl ?_
  refine g_iconst (v := (-1)) hC (dX12_rising_2) kc_m1 ?_
  refine g_istore (i := 4) (lv2 := [(4, .int (-1)), (3, .int 0), (0, .ref 36), (1, .int x1), (2, .int x2)]) hC (dX12_rising_3) (by decide) rfl ?_
  refine g_sub (lv' := [(0, .ref 36), (1, .int x1), (2, .int x2), (3, .int 0), (4, .int (-1))]) [2, 3, 4, 1, 0] rfl ?_
  refine wpO_bJ h (fun KL5 hKL5 h => ?_)
  refine lX12_rising_5 (K1 := KL5) hC (by omega) x1 x2 (fun x3_85 M_85 h => ?_) _ _ _ _ h
  have h := hKL5 _ h
  have h := wpO_p h
  refine g_iload_n (i := 3) (x := x3_85) hC (dX12_rising_85) rfl rfl ?_
  refine g_ireturn hC hr (dX12_rising_86) ?_
  exact wpO_s h
/-! LostByStateModel.told()V -/
theorem dX12_told_0 : decode cX12_told 0 = .ok (.aload_n 0, 1) := by decide +kernel
theorem dX12_told_1 : decode cX12_told 1 = .ok (.iconst 0, 1) := by decide +kernel
theorem dX12_told_2 : decode cX12_told 2 = .ok (.putfield 144, 3) := by decide +kernel
theorem dX12_told_5 : decode cX12_told 5 = .ok (.aload_n 0, 1) := by decide +kernel
theorem dX12_told_6 : decode cX12_told 6 = .ok (.dup, 1) := by decide +kernel
theorem dX12_told_7 : decode cX12_told 7 = .ok (.getfield 147, 3) := by decide +kernel
theorem dX12_told_10 : decode cX12_told 10 = .ok (.iconst 1, 1) := by decide +kernel
theorem dX12_told_11 : decode cX12_told 11 = .ok (.iadd, 1) := by decide +kernel
theorem dX12_told_12 : decode cX12_told 12 = .ok (.putfield 147, 3) := by decide +kernel
theorem dX12_told_15 : decode cX12_told 15 = .ok (.return_, 1) := by decide +kernel
def fX12_told  (M : zM) : zM := zlet (zSI M 36 25 0) fun (M2 : zM) =>
  zlet (zSI M2 36 37 ((M2.1 36 37) + 1)) fun (M12 : zM) =>
  M12
set_option maxHeartbeats 4000000 in
theorem cX12_told_ok {E : zE} {d : Nat} (hd : 0 ≤ d)  (M : zM) {K : zM → Prop} (h : wpI (fX12_told  M) K) : CMv E d yX12_told cX12_told 1 (none) [.ref 36] M K := by
  refine CMv.of (by decide) (Nat.le_of_ble_eq_true rfl) (fun Γ hC hr => ?_)
  have hC : Cx E Γ RX12 cX12_told 1 d := hC
  show G E Γ 1 0 [(0, .ref 36)] [] M
  unfold fX12_told at h
  refine g_aload_n (i := 0) (x := 36) hC (dX12_told_0) rfl rfl ?_
  refine g_iconst (v := 0) hC (dX12_told_1) kc_0 ?_
  refine g_putI hC fpX12_144 (dX12_told_2) rfl rfl rfl rfl ?_
  refine g_nmM (fun M2 e_M2 => ?_)
  have h := wpI_n e_M2 h
  refine g_aload_n (i := 0) (x := 36) hC (dX12_told_5) rfl rfl ?_
  refine g_dup hC (dX12_told_6) rfl ?_
  refine g_getI hC flX12_147 (dX12_told_7) rfl rfl ?_
  refine g_iconst (v := 1) hC (dX12_told_10) kc_1 ?_
  refine g_iadd hC (dX12_told_11) ?_
  refine g_putI hC fpX12_147 (dX12_told_12) rfl rfl rfl rfl ?_
  refine g_nmM (fun M12 e_M12 => ?_)
  have h := wpI_n e_M12 h
  refine g_vreturn hC hr (dX12_told_15) ?_
  exact wpI_s h
/-! LostByStateModel.things()I -/
theorem dX12_things_0 : decode cX12_things 0 = .ok (.aload_n 0, 1) := by decide +kernel
theorem dX12_things_1 : decode cX12_things 1 = .ok (.iconst 0, 1) := by decide +kernel
theorem dX12_things_2 : decode cX12_things 2 = .ok (.putfield 86, 3) := by decide +kernel
theorem dX12_things_5 : decode cX12_things 5 = .ok (.aload_n 0, 1) := by decide +kernel
theorem dX12_things_6 : decode cX12_things 6 = .ok (.bipush 79, 2) := by decide +kernel
theorem dX12_things_8 : decode cX12_things 8 = .ok (.invokevirtual 150, 3) := by decide +kernel
theorem dX12_things_11 : decode cX12_things 11 = .ok (.aload_n 0, 1) := by decide +kernel
theorem dX12_things_12 : decode cX12_things 12 = .ok (.getfield 108, 3) := by decide +kernel
theorem dX12_things_15 : decode cX12_things 15 = .ok (.ifCond .ne 5, 3) := by decide +kernel
theorem dX12_things_18 : decode cX12_things 18 = .ok (.iconst 0, 1) := by decide +kernel
theorem dX12_things_19 : decode cX12_things 19 = .ok (.ireturn, 1) := by decide +kernel
theorem dX12_things_20 : decode cX12_things 20 = .ok (.iconst 0, 1) := by decide +kernel
theorem dX12_things_21 : decode cX12_things 21 = .ok (.istore_n 1, 1) := by decide +kernel
theorem dX12_things_22 : decode cX12_things 22 = .ok (.iconst 1, 1) := by decide +kernel
theorem dX12_things_23 : decode cX12_things 23 = .ok (.istore_n 2, 1) := by decide +kernel
theorem dX12_things_24 : decode cX12_things 24 = .ok (.iload_n 2, 1) := by decide +kernel
theorem dX12_things_25 : decode cX12_things 25 = .ok (.ifCond .eq 81, 3) := by decide +kernel
theorem dX12_things_28 : decode cX12_things 28 = .ok (.aload_n 0, 1) := by decide +kernel
theorem dX12_things_29 : decode cX12_things 29 = .ok (.invokevirtual 124, 3) := by decide +kernel
theorem dX12_things_32 : decode cX12_things 32 = .ok (.ifCond .eq 74, 3) := by decide +kernel
theorem dX12_things_35 : decode cX12_things 35 = .ok (.aload_n 0, 1) := by decide +kernel
theorem dX12_things_36 : decode cX12_things 36 = .ok (.getfield 92, 3) := by decide +kernel
theorem dX12_things_39 : decode cX12_things 39 = .ok (.iload_n 1, 1) := by decide +kernel
theorem dX12_things_40 : decode cX12_things 40 = .ok (.iadd, 1) := by decide +kernel
theorem dX12_things_41 : decode cX12_things 41 = .ok (.bipush 8, 2) := by decide +kernel
theorem dX12_things_43 : decode cX12_things 43 = .ok (.if_icmp .ne 14, 3) := by decide +kernel
theorem dX12_things_46 : decode cX12_things 46 = .ok (.aload_n 0, 1) := by decide +kernel
theorem dX12_things_47 : decode cX12_things 47 = .ok (.aload_n 0, 1) := by decide +kernel
theorem dX12_things_48 : decode cX12_things 48 = .ok (.getfield 114, 3) := by decide +kernel
theorem dX12_things_51 : decode cX12_things 51 = .ok (.invokevirtual 136, 3) := by decide +kernel
theorem dX12_things_54 : decode cX12_things 54 = .ok (.goto 39, 3) := by decide +kernel
theorem dX12_things_57 : decode cX12_things 57 = .ok (.aload_n 0, 1) := by decide +kernel
theorem dX12_things_58 : decode cX12_things 58 = .ok (.getfield 37, 3) := by decide +kernel
theorem dX12_things_61 : decode cX12_things 61 = .ok (.iconst 2, 1) := by decide +kernel
theorem dX12_things_62 : decode cX12_things 62 = .ok (.iload_n 1, 1) := by decide +kernel
theorem dX12_things_63 : decode cX12_things 63 = .ok (.imul, 1) := by decide +kernel
theorem dX12_things_64 : decode cX12_things 64 = .ok (.aload_n 0, 1) := by decide +kernel
theorem dX12_things_65 : decode cX12_things 65 = .ok (.bipush 49, 2) := by decide +kernel
theorem dX12_things_67 : decode cX12_things 67 = .ok (.bipush 9, 2) := by decide +kernel
theorem dX12_things_69 : decode cX12_things 69 = .ok (.invokevirtual 140, 3) := by decide +kernel
theorem dX12_things_72 : decode cX12_things 72 = .ok (.iconst 1, 1) := by decide +kernel
theorem dX12_things_73 : decode cX12_things 73 = .ok (.iadd, 1) := by decide +kernel
theorem dX12_things_74 : decode cX12_things 74 = .ok (.iastore, 1) := by decide +kernel
theorem dX12_things_75 : decode cX12_things 75 = .ok (.aload_n 0, 1) := by decide +kernel
theorem dX12_things_76 : decode cX12_things 76 = .ok (.getfield 37, 3) := by decide +kernel
theorem dX12_things_79 : decode cX12_things 79 = .ok (.iconst 2, 1) := by decide +kernel
theorem dX12_things_80 : decode cX12_things 80 = .ok (.iload_n 1, 1) := by decide +kernel
theorem dX12_things_81 : decode cX12_things 81 = .ok (.imul, 1) := by decide +kernel
theorem dX12_things_82 : decode cX12_things 82 = .ok (.iconst 1, 1) := by decide +kernel
theorem dX12_things_83 : decode cX12_things 83 = .ok (.iadd, 1) := by decide +kernel
theorem dX12_things_84 : decode cX12_things 84 = .ok (.aload_n 0, 1) := by decide +kernel
theorem dX12_things_85 : decode cX12_things 85 = .ok (.bipush 97, 2) := by decide +kernel
theorem dX12_things_87 : decode cX12_things 87 = .ok (.bipush 8, 2) := by decide +kernel
theorem dX12_things_89 : decode cX12_things 89 = .ok (.invokevirtual 153, 3) := by decide +kernel
theorem dX12_things_92 : decode cX12_things 92 = .ok (.iastore, 1) := by decide +kernel
theorem dX12_things_93 : decode cX12_things 93 = .ok (.iinc 1 1, 3) := by decide +kernel
theorem dX12_things_96 : decode cX12_things 96 = .ok (.aload_n 0, 1) := by decide +kernel
theorem dX12_things_97 : decode cX12_things 97 = .ok (.bipush 59, 2) := by decide +kernel
theorem dX12_things_99 : decode cX12_things 99 = .ok (.invokevirtual 132, 3) := by decide +kernel
theorem dX12_things_102 : decode cX12_things 102 = .ok (.istore_n 2, 1) := by decide +kernel
theorem dX12_things_103 : decode cX12_things 103 = .ok (.goto (-79), 3) := by decide +kernel
theorem dX12_things_106 : decode cX12_things 106 = .ok (.aload_n 0, 1) := by decide +kernel
theorem dX12_things_107 : decode cX12_things 107 = .ok (.invokevirtual 157, 3) := by decide +kernel
theorem dX12_things_110 : decode cX12_things 110 = .ok (.ifCond .ne 10, 3) := by decide +kernel
theorem dX12_things_113 : decode cX12_things 113 = .ok (.iconst (-1), 1) := by decide +kernel
theorem dX12_things_114 : decode cX12_things 114 = .ok (.aload_n 0, 1) := by decide +kernel
theorem dX12_things_115 : decode cX12_things 115 = .ok (.getfield 117, 3) := by decide +kernel
theorem dX12_things_118 : decode cX12_things 118 = .ok (.isub, 1) := by decide +kernel
theorem dX12_things_119 : decode cX12_things 119 = .ok (.ireturn, 1) := by decide +kernel
theorem dX12_things_120 : decode cX12_things 120 = .ok (.iconst 0, 1) := by decide +kernel
theorem dX12_things_121 : decode cX12_things 121 = .ok (.istore_n 3, 1) := by decide +kernel
theorem dX12_things_122 : decode cX12_things 122 = .ok (.iload_n 3, 1) := by decide +kernel
theorem dX12_things_123 : decode cX12_things 123 = .ok (.iload_n 1, 1) := by decide +kernel
theorem dX12_things_124 : decode cX12_things 124 = .ok (.if_icmp .ge 92, 3) := by decide +kernel
theorem dX12_things_127 : decode cX12_things 127 = .ok (.aload_n 0, 1) := by decide +kernel
theorem dX12_things_128 : decode cX12_things 128 = .ok (.getfield 23, 3) := by decide +kernel
theorem dX12_things_131 : decode cX12_things 131 = .ok (.aload_n 0, 1) := by decide +kernel
theorem dX12_things_132 : decode cX12_things 132 = .ok (.getfield 92, 3) := by decide +kernel
theorem dX12_things_135 : decode cX12_things 135 = .ok (.aload_n 0, 1) := by decide +kernel
theorem dX12_things_136 : decode cX12_things 136 = .ok (.getfield 37, 3) := by decide +kernel
theorem dX12_things_139 : decode cX12_things 139 = .ok (.iconst 2, 1) := by decide +kernel
theorem dX12_things_140 : decode cX12_things 140 = .ok (.iload_n 3, 1) := by decide +kernel
theorem dX12_things_141 : decode cX12_things 141 = .ok (.imul, 1) := by decide +kernel
theorem dX12_things_142 : decode cX12_things 142 = .ok (.iaload, 1) := by decide +kernel
theorem dX12_things_143 : decode cX12_things 143 = .ok (.iastore, 1) := by decide +kernel
theorem dX12_things_144 : decode cX12_things 144 = .ok (.aload_n 0, 1) := by decide +kernel
theorem dX12_things_145 : decode cX12_things 145 = .ok (.getfield 20, 3) := by decide +kernel
theorem dX12_things_148 : decode cX12_things 148 = .ok (.aload_n 0, 1) := by decide +kernel
theorem dX12_things_149 : decode cX12_things 149 = .ok (.getfield 92, 3) := by decide +kernel
theorem dX12_things_152 : decode cX12_things 152 = .ok (.aload_n 0, 1) := by decide +kernel
theorem dX12_things_153 : decode cX12_things 153 = .ok (.getfield 37, 3) := by decide +kernel
theorem dX12_things_156 : decode cX12_things 156 = .ok (.iconst 2, 1) := by decide +kernel
theorem dX12_things_157 : decode cX12_things 157 = .ok (.iload_n 3, 1) := by decide +kernel
theorem dX12_things_158 : decode cX12_things 158 = .ok (.imul, 1) := by decide +kernel
theorem dX12_things_159 : decode cX12_things 159 = .ok (.iconst 1, 1) := by decide +kernel
theorem dX12_things_160 : decode cX12_things 160 = .ok (.iadd, 1) := by decide +kernel
theorem dX12_things_161 : decode cX12_things 161 = .ok (.iaload, 1) := by decide +kernel
theorem dX12_things_162 : decode cX12_things 162 = .ok (.iastore, 1) := by decide +kernel
theorem dX12_things_163 : decode cX12_things 163 = .ok (.aload_n 0, 1) := by decide +kernel
theorem dX12_things_164 : decode cX12_things 164 = .ok (.getfield 9, 3) := by decide +kernel
theorem dX12_things_167 : decode cX12_things 167 = .ok (.aload_n 0, 1) := by decide +kernel
theorem dX12_things_168 : decode cX12_things 168 = .ok (.getfield 92, 3) := by decide +kernel
theorem dX12_things_171 : decode cX12_things 171 = .ok (.iconst 0, 1) := by decide +kernel
theorem dX12_things_172 : decode cX12_things 172 = .ok (.iastore, 1) := by decide +kernel
theorem dX12_things_173 : decode cX12_things 173 = .ok (.aload_n 0, 1) := by decide +kernel
theorem dX12_things_174 : decode cX12_things 174 = .ok (.getfield 9, 3) := by decide +kernel
theorem dX12_things_177 : decode cX12_things 177 = .ok (.bipush 8, 2) := by decide +kernel
theorem dX12_things_179 : decode cX12_things 179 = .ok (.aload_n 0, 1) := by decide +kernel
theorem dX12_things_180 : decode cX12_things 180 = .ok (.getfield 92, 3) := by decide +kernel
theorem dX12_things_183 : decode cX12_things 183 = .ok (.iadd, 1) := by decide +kernel
theorem dX12_things_184 : decode cX12_things 184 = .ok (.bipush 6, 2) := by decide +kernel
theorem dX12_things_186 : decode cX12_things 186 = .ok (.iastore, 1) := by decide +kernel
theorem dX12_things_187 : decode cX12_things 187 = .ok (.aload_n 0, 1) := by decide +kernel
theorem dX12_things_188 : decode cX12_things 188 = .ok (.getfield 9, 3) := by decide +kernel
theorem dX12_things_191 : decode cX12_things 191 = .ok (.bipush 16, 2) := by decide +kernel
theorem dX12_things_193 : decode cX12_things 193 = .ok (.aload_n 0, 1) := by decide +kernel
theorem dX12_things_194 : decode cX12_things 194 = .ok (.getfield 92, 3) := by decide +kernel
theorem dX12_things_197 : decode cX12_things 197 = .ok (.iadd, 1) := by decide +kernel
theorem dX12_things_198 : decode cX12_things 198 = .ok (.iconst 0, 1) := by decide +kernel
theorem dX12_things_199 : decode cX12_things 199 = .ok (.iastore, 1) := by decide +kernel
theorem dX12_things_200 : decode cX12_things 200 = .ok (.aload_n 0, 1) := by decide +kernel
theorem dX12_things_201 : decode cX12_things 201 = .ok (.dup, 1) := by decide +kernel
theorem dX12_things_202 : decode cX12_things 202 = .ok (.getfield 92, 3) := by decide +kernel
theorem dX12_things_205 : decode cX12_things 205 = .ok (.iconst 1, 1) := by decide +kernel
theorem dX12_things_206 : decode cX12_things 206 = .ok (.iadd, 1) := by decide +kernel
theorem dX12_things_207 : decode cX12_things 207 = .ok (.putfield 92, 3) := by decide +kernel
theorem dX12_things_210 : decode cX12_things 210 = .ok (.iinc 3 1, 3) := by decide +kernel
theorem dX12_things_213 : decode cX12_things 213 = .ok (.goto (-91), 3) := by decide +kernel
theorem dX12_things_216 : decode cX12_things 216 = .ok (.aload_n 0, 1) := by decide +kernel
theorem dX12_things_217 : decode cX12_things 217 = .ok (.invokevirtual 160, 3) := by decide +kernel
theorem dX12_things_220 : decode cX12_things 220 = .ok (.iload_n 1, 1) := by decide +kernel
theorem dX12_things_221 : decode cX12_things 221 = .ok (.ireturn, 1) := by decide +kernel
def fX12_things_L24 : Nat → Int32 → Int32 → zM → Option (Int32 × zM)
  | 0, _, _, _ => none
  | n + 1, x1, x2, M => if x2 = 0 then (
    some (x1, M))
    else (
    if (fX12_fine M) = 0 then (
    some (x1, M))
    else (
    (if ((M.1 36 1) + x1) = 8 then (
    zlet (fX12_fault (M.1 36 16) M) fun (M51 : zM) =>
    some M51)
    else (
    (fX12_oneOf 49 9 M).bind fun (q : Int32 × zM) => zp q fun r4 M69 =>
    if zin (2 * x1) 16 then (
    zlet (zSI M69 43 (2 * x1).toNatClampNeg (r4 + 1)) fun (M74 : zM) =>
    (fX12_rising 97 8 M74).bind fun (q : Int32 × zM) => zp q fun r6 M89 =>
    if zin ((2 * x1) + 1) 16 then (
    zlet (zSI M89 43 ((2 * x1) + 1).toNatClampNeg r6) fun (M92 : zM) =>
    some M92) else none) else none) : Option zM).bind fun (M_93 : zM) =>
    (fX12_passes 59 M_93).bind fun (q : Int32 × zM) => zp q fun r9 M99 =>
    fX12_things_L24 n (x1 + 1) r9 M99))
def fX12_things_L122 (x1 : Int32) : Nat → Int32 → zM → Option zM
  | 0, _, _ => none
  | n + 1, x3, M => if x1 ≤ x3 then (
    some M)
    else (
    if zin (2 * x3) 16 then (
    if zin (M.1 36 1) 8 then (
    zlet (zSI M 39 (M.1 36 1).toNatClampNeg (M.1 43 (2 * x3).toNatClampNeg)) fun (M143 : zM) =>
    if zin ((2 * x3) + 1) 16 then (
    if zin (M143.1 36 1) 8 then (
    zlet (zSI M143 38 (M143.1 36 1).toNatClampNeg (M143.1 43 ((2 * x3) + 1).toNatClampNeg)) fun (M162 : zM) =>
    if zin (M162.1 36 1) 26 then (
    zlet (zSI M162 37 (M162.1 36 1).toNatClampNeg 0) fun (M172 : zM) =>
    if zin (8 + (M172.1 36 1)) 26 then (
    zlet (zSI M172 37 (8 + (M172.1 36 1)).toNatClampNeg 6) fun (M186 : zM) =>
    if zin (16 + (M186.1 36 1)) 26 then (
    zlet (zSI M186 37 (16 + (M186.1 36 1)).toNatClampNeg 0) fun (M199 : zM) =>
    zlet (zSI M199 36 1 ((M199.1 36 1) + 1)) fun (M207 : zM) =>
    fX12_things_L122 x1 n (x3 + 1) M207) else none) else none) else none) else none) else none) else none) else none)
def fX12_things  (M : zM) : Option (Int32 × zM) := zlet (zSI M 36 12 0) fun (M2 : zM) =>
  zlet (fX12_beginText 79 M2) fun (M8 : zM) =>
  if (M8.1 36 14) = 0 then (
  some (0, M8))
  else (
  (fX12_things_L24 4000 0 1 M8).bind fun (q : Int32 × zM) => zp q fun x1_106 M_106 =>
  zlet ((fX12_wasRight M_106).2) fun (M107 : zM) =>
  if ((fX12_wasRight M_106).1) = 0 then (
  some ((-1) - (M107.1 36 17), M107))
  else (
  (fX12_things_L122 x1_106 4000 0 M107).bind fun (M_216 : zM) =>
  zlet (fX12_told M_216) fun (M217 : zM) =>
  some (x1_106, M217)))
set_option maxHeartbeats 4000000 in
theorem lX12_things_24 {E : zE} {Γ : zT} {d : Nat} {K1 : (Int32 × zM) → Prop} (hC : Cx E Γ RX12 cX12_things 4 d) (hd : 3 ≤ d) (hx : ∀ (x1_106 : Int32) (M_106 : zM), K1 (x1_106, M_106) → G E Γ 4 106 [(0, .ref 36), (1, .int x1_106)] [] M_106) :
    ∀ (n : Nat) (x1 : Int32) (x2 : Int32) (M : zM), wpO (fX12_things_L24 n x1 x2 M) K1 → G E Γ 4 24 [(0, .ref 36), (1, .int x1), (2, .int x2)] [] M := by
  intro n
  induction n with
  | zero =>
    intro x1 x2 M h
    exact (wpO_0 h).elim
  | succ n ih =>
    intro x1 x2 M h
    rw [fX12_things_L24.eq_2] at h
    refine g_iload_n (i := 2) (x := x2) hC (dX12_things_24) rfl rfl ?_
    refine g_if_eq (tgt := 106) hC (dX12_things_25) (by decide) (fun c25 => ?_) (fun c25 => ?_)
    · have h := wpO_t c25 h
      refine g_sub (lv' := [(0, .ref 36), (1, .int x1)]) [0, 1] rfl ?_
      exact hx _ _ (wpO_s h)
    · have h := wpO_f c25 h
      refine g_aload_n (i := 0) (x := 36) hC (dX12_things_28) rfl rfl ?_
      refine g_callVi ([]) hC wvX12_124 (dX12_things_29) rfl rfl (by omega) (Nat.le_of_ble_eq_true rfl) (cX12_fine_ok (by omega) M (K := fun r => r = fX12_fine M) rfl) (fun r N q => ?_)
      obtain ⟨rfl, rfl⟩ := q
      refine g_if_eq (tgt := 106) hC (dX12_things_32) (by decide) (fun c32 => ?_) (fun c32 => ?_)
      · have h := wpO_t c32 h
        refine g_sub (lv' := [(0, .ref 36), (1, .int x1)]) [0, 1] rfl ?_
        exact hx _ _ (wpO_s h)
      · have h := wpO_f c32 h
        refine g_aload_n (i := 0) (x := 36) hC (dX12_things_35) rfl rfl ?_
        refine g_getI hC flX12_92 (dX12_things_36) rfl rfl ?_
        refine g_iload_n (i := 1) (x := x1) hC (dX12_things_39) rfl rfl ?_
        refine g_iadd hC (dX12_things_40) ?_
        refine g_bipush (v := 8) hC (dX12_things_41) kb_8 ?_
        refine wpO_bJ h (fun KJ3 hKJ3 h => ?_)
        have hJ3 : ∀ (M_93 : zM), KJ3 M_93 → G E Γ 4 93 [(0, .ref 36), (1, .int x1)] [] M_93 := by
          intro M_93 h
          have h := hKJ3 _ h
          refine g_iinc (x := x1) (v := (x1 + 1)) (lv2 := [(1, .int (x1 + 1)), (0, .ref 36)]) hC (dX12_things_93) rfl rfl (by decide) rfl ?_
          refine g_aload_n (i := 0) (x := 36) hC (dX12_things_96) rfl rfl ?_
          refine g_bipush (v := 59) hC (dX12_things_97) kb_59 ?_
          have h := wpO_b h
          refine g_callVi ([.int 59]) hC wvX12_132 (dX12_things_99) rfl rfl (by omega) (Nat.le_of_ble_eq_true rfl) (cX12_passes_ok (by omega) 59 M_93 h) (fun r9 M99 h => ?_)
          have h := wpO_p h
          refine g_istore_n (i := 2) (lv2 := [(2, .int r9), (1, .int (x1 + 1)), (0, .ref 36)]) hC (dX12_things_102) rfl (by decide) rfl ?_
          refine g_goto (tgt := 24) hC (dX12_things_103) (by decide) ?_
          refine g_sub (lv' := [(0, .ref 36), (1, .int (x1 + 1)), (2, .int r9)]) [2, 1, 0] rfl ?_
          exact ih _ _ _ h
        refine g_icmp_ne (tgt := 57) hC (dX12_things_43) (by decide) (fun c43 => ?_) (fun c43 => ?_)
        · have h := wpO_f c43 h
          refine g_aload_n (i := 0) (x := 36) hC (dX12_things_57) rfl rfl ?_
          refine g_getR (r := 43) hC flX12_37 (dX12_things_58) rfl rfl rfl ?_
          refine g_iconst (v := 2) hC (dX12_things_61) kc_2 ?_
          refine g_iload_n (i := 1) (x := x1) hC (dX12_things_62) rfl rfl ?_
          refine g_imul hC (dX12_things_63) ?_
          refine g_aload_n (i := 0) (x := 36) hC (dX12_things_64) rfl rfl ?_
          refine g_bipush (v := 49) hC (dX12_things_65) kb_49 ?_
          refine g_bipush (v := 9) hC (dX12_things_67) kb_9 ?_
          have h := wpO_b h
          refine g_callVi ([.int 49, .int 9]) hC wvX12_140 (dX12_things_69) rfl rfl (by omega) (Nat.le_of_ble_eq_true rfl) (cX12_oneOf_ok (by omega) 49 9 M h) (fun r4 M69 h => ?_)
          have h := wpO_p h
          refine g_iconst (v := 1) hC (dX12_things_72) kc_1 ?_
          refine g_iadd hC (dX12_things_73) ?_
          obtain ⟨q5, h⟩ := wpO_g h
          refine g_iastore (n := 16) hC (dX12_things_74) rfl q5 ?_
          refine g_nmM (fun M74 e_M74 => ?_)
          have h := wpO_n e_M74 h
          refine g_aload_n (i := 0) (x := 36) hC (dX12_things_75) rfl rfl ?_
          refine g_getR (r := 43) hC flX12_37 (dX12_things_76) rfl rfl rfl ?_
          refine g_iconst (v := 2) hC (dX12_things_79) kc_2 ?_
          refine g_iload_n (i := 1) (x := x1) hC (dX12_things_80) rfl rfl ?_
          refine g_imul hC (dX12_things_81) ?_
          refine g_iconst (v := 1) hC (dX12_things_82) kc_1 ?_
          refine g_iadd hC (dX12_things_83) ?_
          refine g_aload_n (i := 0) (x := 36) hC (dX12_things_84) rfl rfl ?_
          refine g_bipush (v := 97) hC (dX12_things_85) kb_97 ?_
          refine g_bipush (v := 8) hC (dX12_things_87) kb_8 ?_
          have h := wpO_b h
          refine g_callVi ([.int 97, .int 8]) hC wvX12_153 (dX12_things_89) rfl rfl (by omega) (Nat.le_of_ble_eq_true rfl) (cX12_rising_ok (by omega) 97 8 M74 h) (fun r6 M89 h => ?_)
          have h := wpO_p h
          obtain ⟨q7, h⟩ := wpO_g h
          refine g_iastore (n := 16) hC (dX12_things_92) rfl q7 ?_
          refine g_nmM (fun M92 e_M92 => ?_)
          have h := wpO_n e_M92 h
          refine g_sub (lv' := [(0, .ref 36), (1, .int x1)]) [0, 1] rfl ?_
          exact hJ3 _ (wpO_s h)
        · have h := wpO_t c43 h
          refine g_aload_n (i := 0) (x := 36) hC (dX12_things_46) rfl rfl ?_
          refine g_aload_n (i := 0) (x := 36) hC (dX12_things_47) rfl rfl ?_
          refine g_getI hC flX12_114 (dX12_things_48) rfl rfl ?_
          refine g_callVv ([.int (M.1 36 16)]) hC wvX12_136 (dX12_things_51) rfl rfl (by omega) (Nat.le_of_ble_eq_true rfl) (cX12_fault_ok (by omega) (M.1 36 16) M (K := fun r => r = fX12_fault (M.1 36 16) M) rfl) (fun N q => ?_)
          subst q
          refine g_nmM (fun M51 e_M51 => ?_)
          have h := wpO_n e_M51 h
          refine g_goto (tgt := 93) hC (dX12_things_54) (by decide) ?_
          refine g_sub (lv' := [(0, .ref 36), (1, .int x1)]) [0, 1] rfl ?_
          exact hJ3 _ (wpO_s h)
set_option maxHeartbeats 4000000 in
theorem lX12_things_122 {E : zE} {Γ : zT} {d : Nat} {K1 : zM → Prop} (hC : Cx E Γ RX12 cX12_things 4 d) (hd : 3 ≤ d) (x1 : Int32) (hx : ∀ (M_216 : zM), K1 M_216 → G E Γ 4 216 [(0, .ref 36), (1, .int x1)] [] M_216) :
    ∀ (n : Nat) (x3 : Int32) (M : zM), wpO (fX12_things_L122 x1 n x3 M) K1 → G E Γ 4 122 [(0, .ref 36), (1, .int x1), (3, .int x3)] [] M := by
  intro n
  induction n with
  | zero =>
    intro x3 M h
    exact (wpO_0 h).elim
  | succ n ih =>
    intro x3 M h
    rw [fX12_things_L122.eq_2] at h
    refine g_iload_n (i := 3) (x := x3) hC (dX12_things_122) rfl rfl ?_
    refine g_iload_n (i := 1) (x := x1) hC (dX12_things_123) rfl rfl ?_
    refine g_icmp_ge (tgt := 216) hC (dX12_things_124) (by decide) (fun c124 => ?_) (fun c124 => ?_)
    · have h := wpO_t c124 h
      refine g_sub (lv' := [(0, .ref 36), (1, .int x1)]) [0, 1] rfl ?_
      exact hx _ (wpO_s h)
    · have h := wpO_f c124 h
      refine g_aload_n (i := 0) (x := 36) hC (dX12_things_127) rfl rfl ?_
      refine g_getR (r := 39) hC flX12_23 (dX12_things_128) rfl rfl rfl ?_
      refine g_aload_n (i := 0) (x := 36) hC (dX12_things_131) rfl rfl ?_
      refine g_getI hC flX12_92 (dX12_things_132) rfl rfl ?_
      refine g_aload_n (i := 0) (x := 36) hC (dX12_things_135) rfl rfl ?_
      refine g_getR (r := 43) hC flX12_37 (dX12_things_136) rfl rfl rfl ?_
      refine g_iconst (v := 2) hC (dX12_things_139) kc_2 ?_
      refine g_iload_n (i := 3) (x := x3) hC (dX12_things_140) rfl rfl ?_
      refine g_imul hC (dX12_things_141) ?_
      obtain ⟨q11, h⟩ := wpO_g h
      refine g_iaload (n := 16) hC (dX12_things_142) rfl q11 ?_
      obtain ⟨q12, h⟩ := wpO_g h
      refine g_iastore (n := 8) hC (dX12_things_143) rfl q12 ?_
      refine g_nmM (fun M143 e_M143 => ?_)
      have h := wpO_n e_M143 h
      refine g_aload_n (i := 0) (x := 36) hC (dX12_things_144) rfl rfl ?_
      refine g_getR (r := 38) hC flX12_20 (dX12_things_145) rfl rfl rfl ?_
      refine g_aload_n (i := 0) (x := 36) hC (dX12_things_148) rfl rfl ?_
      refine g_getI hC flX12_92 (dX12_things_149) rfl rfl ?_
      refine g_aload_n (i := 0) (x := 36) hC (dX12_things_152) rfl rfl ?_
      refine g_getR (r := 43) hC flX12_37 (dX12_things_153) rfl rfl rfl ?_
      refine g_iconst (v := 2) hC (dX12_things_156) kc_2 ?_
      refine g_iload_n (i := 3) (x := x3) hC (dX12_things_157) rfl rfl ?_
      refine g_imul hC (dX12_things_158) ?_
      refine g_iconst (v := 1) hC (dX12_things_159) kc_1 ?_
      refine g_iadd hC (dX12_things_160) ?_
      obtain ⟨q13, h⟩ := wpO_g h
      refine g_iaload (n := 16) hC (dX12_things_161) rfl q13 ?_
      obtain ⟨q14, h⟩ := wpO_g h
      refine g_iastore (n := 8) hC (dX12_things_162) rfl q14 ?_
      refine g_nmM (fun M162 e_M162 => ?_)
      have h := wpO_n e_M162 h
      refine g_aload_n (i := 0) (x := 36) hC (dX12_things_163) rfl rfl ?_
      refine g_getR (r := 37) hC flX12_9 (dX12_things_164) rfl rfl rfl ?_
      refine g_aload_n (i := 0) (x := 36) hC (dX12_things_167) rfl rfl ?_
      refine g_getI hC flX12_92 (dX12_things_168) rfl rfl ?_
      refine g_iconst (v := 0) hC (dX12_things_171) kc_0 ?_
      obtain ⟨q15, h⟩ := wpO_g h
      refine g_iastore (n := 26) hC (dX12_things_172) rfl q15 ?_
      refine g_nmM (fun M172 e_M172 => ?_)
      have h := wpO_n e_M172 h
      refine g_aload_n (i := 0) (x := 36) hC (dX12_things_173) rfl rfl ?_
      refine g_getR (r := 37) hC flX12_9 (dX12_things_174) rfl rfl rfl ?_
      refine g_bipush (v := 8) hC (dX12_things_177) kb_8 ?_
      refine g_aload_n (i := 0) (x := 36) hC (dX12_things_179) rfl rfl ?_
      refine g_getI hC flX12_92 (dX12_things_180) rfl rfl ?_
      refine g_iadd hC (dX12_things_183) ?_
      refine g_bipush (v := 6) hC (dX12_things_184) kb_6 ?_
      obtain ⟨q16, h⟩ := wpO_g h
      refine g_iastore (n := 26) hC (dX12_things_186) rfl q16 ?_
      refine g_nmM (fun M186 e_M186 => ?_)
      have h := wpO_n e_M186 h
      refine g_aload_n (i := 0) (x := 36) hC (dX12_things_187) rfl rfl ?_
      refine g_getR (r := 37) hC flX12_9 (dX12_things_188) rfl rfl rfl ?_
      refine g_bipush (v := 16) hC (dX12_things_191) kb_16 ?_
      refine g_aload_n (i := 0) (x := 36) hC (dX12_things_193) rfl rfl ?_
      refine g_getI hC flX12_92 (dX12_things_194) rfl rfl ?_
      refine g_iadd hC (dX12_things_197) ?_
      refine g_iconst (v := 0) hC (dX12_things_198) kc_0 ?_
      obtain ⟨q17, h⟩ := wpO_g h
      refine g_iastore (n := 26) hC (dX12_things_199) rfl q17 ?_
      refine g_nmM (fun M199 e_M199 => ?_)
      have h := wpO_n e_M199 h
      refine g_aload_n (i := 0) (x := 36) hC (dX12_things_200) rfl rfl ?_
      refine g_dup hC (dX12_things_201) rfl ?_
      refine g_getI hC flX12_92 (dX12_things_202) rfl rfl ?_
      refine g_iconst (v := 1) hC (dX12_things_205) kc_1 ?_
      refine g_iadd hC (dX12_things_206) ?_
      refine g_putI hC fpX12_92 (dX12_things_207) rfl rfl rfl rfl ?_
      refine g_nmM (fun M207 e_M207 => ?_)
      have h := wpO_n e_M207 h
      refine g_iinc (x := x3) (v := (x3 + 1)) (lv2 := [(3, .int (x3 + 1)), (0, .ref 36), (1, .int x1)]) hC (dX12_things_210) rfl rfl (by decide) rfl ?_
      refine g_goto (tgt := 122) hC (dX12_things_213) (by decide) ?_
      refine g_sub (lv' := [(0, .ref 36), (1, .int x1), (3, .int (x3 + 1))]) [1, 2, 0] rfl ?_
      exact ih _ _ h
set_option maxHeartbeats 4000000 in
theorem cX12_things_ok {E : zE} {d : Nat} (hd : 3 ≤ d)  (M : zM) {K : (Int32 × zM) → Prop} (h : wpO (fX12_things  M) K) : CMi E d yX12_things cX12_things 4 (some .int) [.ref 36] M (fun r N => K (r, N)) := by
  refine CMi.of (by decide) (Nat.le_of_ble_eq_true rfl) (fun Γ hC hr => ?_)
  have hC : Cx E Γ RX12 cX12_things 4 d := hC
  show G E Γ 4 0 [(0, .ref 36)] [] M
  unfold fX12_things at h
  refine g_aload_n (i := 0) (x := 36) hC (dX12_things_0) rfl rfl ?_
  refine g_iconst (v := 0) hC (dX12_things_1) kc_0 ?_
  refine g_putI hC fpX12_86 (dX12_things_2) rfl rfl rfl rfl ?_
  refine g_nmM (fun M2 e_M2 => ?_)
  have h := wpO_n e_M2 h
  refine g_aload_n (i := 0) (x := 36) hC (dX12_things_5) rfl rfl ?_
  refine g_bipush (v := 79) hC (dX12_things_6) kb_79 ?_
  refine g_callVv ([.int 79]) hC wvX12_150 (dX12_things_8) rfl rfl (by omega) (Nat.le_of_ble_eq_true rfl) (cX12_beginText_ok (by omega) 79 M2 (K := fun r => r = fX12_beginText 79 M2) rfl) (fun N q => ?_)
  subst q
  refine g_nmM (fun M8 e_M8 => ?_)
  have h := wpO_n e_M8 h
  refine g_aload_n (i := 0) (x := 36) hC (dX12_things_11) rfl rfl ?_
  refine g_getI hC flX12_108 (dX12_things_12) rfl rfl ?_
  refine g_if_ne (tgt := 20) hC (dX12_things_15) (by decide) (fun c15 => ?_) (fun c15 => ?_)
  · have h := wpO_f c15 h
    refine g_iconst (v := 0) hC (dX12_things_20) kc_0 ?_
    refine g_istore_n (i := 1) (lv2 := [(1, .int 0), (0, .ref 36)]) hC (dX12_things_21) rfl (by decide) rfl ?_
    refine g_iconst (v := 1) hC (dX12_things_22) kc_1 ?_
    refine g_istore_n (i := 2) (lv2 := [(2, .int 1), (1, .int 0), (0, .ref 36)]) hC (dX12_things_23) rfl (by decide) rfl ?_
    refine g_sub (lv' := [(0, .ref 36), (1, .int 0), (2, .int 1)]) [2, 1, 0] rfl ?_
    refine wpO_bJ h (fun KL24 hKL24 h => ?_)
    refine lX12_things_24 (K1 := KL24) hC (by omega)  (fun x1_106 M_106 h => ?_) _ _ _ _ h
    have h := hKL24 _ h
    have h := wpO_p h
    refine g_aload_n (i := 0) (x := 36) hC (dX12_things_106) rfl rfl ?_
    refine g_callVi ([]) hC wvX12_157 (dX12_things_107) rfl rfl (by omega) (Nat.le_of_ble_eq_true rfl) (cX12_wasRight_ok (by omega) M_106 (K := fun r => r = fX12_wasRight M_106) rfl) (fun r N q => ?_)
    obtain ⟨rfl, rfl⟩ : r = (fX12_wasRight M_106).1 ∧ N = (fX12_wasRight M_106).2 := ⟨congrArg Prod.fst q, congrArg Prod.snd q⟩
    refine g_nmM (fun M107 e_M107 => ?_)
    have h := wpO_n e_M107 h
    refine g_if_ne (tgt := 120) hC (dX12_things_110) (by decide) (fun c110 => ?_) (fun c110 => ?_)
    · have h := wpO_f c110 h
      refine g_iconst (v := 0) hC (dX12_things_120) kc_0 ?_
      refine g_istore_n (i := 3) (lv2 := [(3, .int 0), (0, .ref 36), (1, .int x1_106)]) hC (dX12_things_121) rfl (by decide) rfl ?_
      refine g_sub (lv' := [(0, .ref 36), (1, .int x1_106), (3, .int 0)]) [1, 2, 0] rfl ?_
      refine wpO_bJ h (fun KL122 hKL122 h => ?_)
      refine lX12_things_122 (K1 := KL122) hC (by omega) x1_106 (fun M_216 h => ?_) _ _ _ h
      have h := hKL122 _ h
      refine g_aload_n (i := 0) (x := 36) hC (dX12_things_216) rfl rfl ?_
      refine g_callVv ([]) hC wvX12_160 (dX12_things_217) rfl rfl (by omega) (Nat.le_of_ble_eq_true rfl) (cX12_told_ok (by omega) M_216 (K := fun r => r = fX12_told M_216) rfl) (fun N q => ?_)
      subst q
      refine g_nmM (fun M217 e_M217 => ?_)
      have h := wpO_n e_M217 h
      refine g_iload_n (i := 1) (x := x1_106) hC (dX12_things_220) rfl rfl ?_
      refine g_ireturn hC hr (dX12_things_221) ?_
      exact wpO_s h
    · have h := wpO_t c110 h
      refine g_iconst (v := (-1)) hC (dX12_things_113) kc_m1 ?_
      refine g_aload_n (i := 0) (x := 36) hC (dX12_things_114) rfl rfl ?_
      refine g_getI hC flX12_117 (dX12_things_115) rfl rfl ?_
      refine g_isub hC (dX12_things_118) ?_
      refine g_ireturn hC hr (dX12_things_119) ?_
      exact wpO_s h
  · have h := wpO_t c15 h
    refine g_iconst (v := 0) hC (dX12_things_18) kc_0 ?_
    refine g_ireturn hC hr (dX12_things_19) ?_
    exact wpO_s h
