/-! LostByState.fittingThings()I -/
theorem dX11_fittingThings_0 : decode cX11_fittingThings 0 = .ok (.iconst 0, 1) := by decide +kernel
theorem dX11_fittingThings_1 : decode cX11_fittingThings 1 = .ok (.istore_n 1, 1) := by decide +kernel
theorem dX11_fittingThings_2 : decode cX11_fittingThings 2 = .ok (.iconst 0, 1) := by decide +kernel
theorem dX11_fittingThings_3 : decode cX11_fittingThings 3 = .ok (.istore_n 2, 1) := by decide +kernel
theorem dX11_fittingThings_4 : decode cX11_fittingThings 4 = .ok (.iload_n 2, 1) := by decide +kernel
theorem dX11_fittingThings_5 : decode cX11_fittingThings 5 = .ok (.aload_n 0, 1) := by decide +kernel
theorem dX11_fittingThings_6 : decode cX11_fittingThings 6 = .ok (.getfield 26, 3) := by decide +kernel
theorem dX11_fittingThings_9 : decode cX11_fittingThings 9 = .ok (.getfield 135, 3) := by decide +kernel
theorem dX11_fittingThings_12 : decode cX11_fittingThings 12 = .ok (.if_icmp .ge 34, 3) := by decide +kernel
theorem dX11_fittingThings_15 : decode cX11_fittingThings 15 = .ok (.aload_n 0, 1) := by decide +kernel
theorem dX11_fittingThings_16 : decode cX11_fittingThings 16 = .ok (.getfield 98, 3) := by decide +kernel
theorem dX11_fittingThings_19 : decode cX11_fittingThings 19 = .ok (.aload_n 0, 1) := by decide +kernel
theorem dX11_fittingThings_20 : decode cX11_fittingThings 20 = .ok (.getfield 26, 3) := by decide +kernel
theorem dX11_fittingThings_23 : decode cX11_fittingThings 23 = .ok (.getfield 176, 3) := by decide +kernel
theorem dX11_fittingThings_26 : decode cX11_fittingThings 26 = .ok (.iload_n 2, 1) := by decide +kernel
theorem dX11_fittingThings_27 : decode cX11_fittingThings 27 = .ok (.iaload, 1) := by decide +kernel
theorem dX11_fittingThings_28 : decode cX11_fittingThings 28 = .ok (.invokevirtual 460, 3) := by decide +kernel
theorem dX11_fittingThings_31 : decode cX11_fittingThings 31 = .ok (.ifCond .eq 9, 3) := by decide +kernel
theorem dX11_fittingThings_34 : decode cX11_fittingThings 34 = .ok (.iload_n 1, 1) := by decide +kernel
theorem dX11_fittingThings_35 : decode cX11_fittingThings 35 = .ok (.iconst 1, 1) := by decide +kernel
theorem dX11_fittingThings_36 : decode cX11_fittingThings 36 = .ok (.iload_n 2, 1) := by decide +kernel
theorem dX11_fittingThings_37 : decode cX11_fittingThings 37 = .ok (.ishl, 1) := by decide +kernel
theorem dX11_fittingThings_38 : decode cX11_fittingThings 38 = .ok (.ior, 1) := by decide +kernel
theorem dX11_fittingThings_39 : decode cX11_fittingThings 39 = .ok (.istore_n 1, 1) := by decide +kernel
theorem dX11_fittingThings_40 : decode cX11_fittingThings 40 = .ok (.iinc 2 1, 3) := by decide +kernel
theorem dX11_fittingThings_43 : decode cX11_fittingThings 43 = .ok (.goto (-39), 3) := by decide +kernel
theorem dX11_fittingThings_46 : decode cX11_fittingThings 46 = .ok (.iload_n 1, 1) := by decide +kernel
theorem dX11_fittingThings_47 : decode cX11_fittingThings 47 = .ok (.ireturn, 1) := by decide +kernel
def fX11_fittingThings_L4 (M : zM) : Nat → Int32 → Int32 → Option Int32
  | 0, _, _ => none
  | n + 1, x1, x2 => if (M.1 5 3) ≤ x2 then (
    some x1)
    else (
    if zin x2 8 then (
    zlet (if (fX1_isTrueOf (M.1 6 x2.toNatClampNeg) M) = 0 then (
    x1)
    else (
    zlet (x1 ||| (zshl 1 x2)) fun (x1_39 : Int32) =>
    x1_39)) fun (x1_40 : Int32) =>
    fX11_fittingThings_L4 M n x1_40 (x2 + 1)) else none)
def fX11_fittingThings  (M : zM) : Option Int32 := (fX11_fittingThings_L4 M 4000 0 0).bind fun (x1_46 : Int32) =>
  some x1_46
set_option maxHeartbeats 4000000 in
theorem lX11_fittingThings_4 {E : zE} {Γ : zT} {d : Nat} {K1 : Int32 → Prop} (hC : Cx E Γ RX11 cX11_fittingThings 3 d) (hd : 1 ≤ d) (M : zM) (hx : ∀ (x1_46 : Int32), K1 x1_46 → G E Γ 3 46 [(1, .int x1_46)] [] M) :
    ∀ (n : Nat) (x1 : Int32) (x2 : Int32), wpO (fX11_fittingThings_L4 M n x1 x2) K1 → G E Γ 3 4 [(0, .ref 0), (1, .int x1), (2, .int x2)] [] M := by
  intro n
  induction n with
  | zero =>
    intro x1 x2 h
    exact (wpO_0 h).elim
  | succ n ih =>
    intro x1 x2 h
    rw [fX11_fittingThings_L4.eq_2] at h
    refine g_iload_n (i := 2) (x := x2) hC (dX11_fittingThings_4) rfl rfl ?_
    refine g_aload_n (i := 0) (x := 0) hC (dX11_fittingThings_5) rfl rfl ?_
    refine g_getR (r := 5) hC flX11_26 (dX11_fittingThings_6) rfl rfl rfl ?_
    refine g_getI hC flX11_135 (dX11_fittingThings_9) rfl rfl ?_
    refine g_icmp_ge (tgt := 46) hC (dX11_fittingThings_12) (by decide) (fun c12 => ?_) (fun c12 => ?_)
    · have h := wpO_t c12 h
      refine g_sub (lv' := [(1, .int x1)]) [1] rfl ?_
      exact hx _ (wpO_s h)
    · have h := wpO_f c12 h
      refine g_aload_n (i := 0) (x := 0) hC (dX11_fittingThings_15) rfl rfl ?_
      refine g_getR (r := 34) hC flX11_98 (dX11_fittingThings_16) rfl rfl rfl ?_
      refine g_aload_n (i := 0) (x := 0) hC (dX11_fittingThings_19) rfl rfl ?_
      refine g_getR (r := 5) hC flX11_26 (dX11_fittingThings_20) rfl rfl rfl ?_
      refine g_getR (r := 6) hC flX11_176 (dX11_fittingThings_23) rfl rfl rfl ?_
      refine g_iload_n (i := 2) (x := x2) hC (dX11_fittingThings_26) rfl rfl ?_
      obtain ⟨q1, h⟩ := wpO_g h
      refine g_iaload (n := 8) hC (dX11_fittingThings_27) rfl q1 ?_
      refine g_callVi ([.int (M.1 6 x2.toNatClampNeg)]) hC wvX11_460 (dX11_fittingThings_28) rfl rfl (by omega) (Nat.le_of_ble_eq_true rfl) (cX1_isTrueOf_ok (by omega) (M.1 6 x2.toNatClampNeg) M (K := fun r => r = fX1_isTrueOf (M.1 6 x2.toNatClampNeg) M) rfl) (fun r N q => ?_)
      obtain ⟨rfl, rfl⟩ := q
      obtain ⟨x1_40, e_x1_40, h⟩ := wpO_l h
      have hJ3 : G E Γ 3 40 [(0, .ref 0), (1, .int x1_40), (2, .int x2)] [] M := by
        refine g_iinc (x := x2) (v := (x2 + 1)) (lv2 := [(2, .int (x2 + 1)), (0, .ref 0), (1, .int x1_40)]) hC (dX11_fittingThings_40) rfl rfl (by decide) rfl ?_
        refine g_goto (tgt := 4) hC (dX11_fittingThings_43) (by decide) ?_
        refine g_sub (lv' := [(0, .ref 0), (1, .int x1_40), (2, .int (x2 + 1))]) [1, 2, 0] rfl ?_
        exact ih _ _ h
      refine g_if_eq (tgt := 40) hC (dX11_fittingThings_31) (by decide) (fun c31 => ?_) (fun c31 => ?_)
      · rw [if_pos c31] at e_x1_40
        subst e_x1_40
        exact hJ3
      · rw [if_neg c31] at e_x1_40
        refine g_iload_n (i := 1) (x := x1) hC (dX11_fittingThings_34) rfl rfl ?_
        refine g_iconst (v := 1) hC (dX11_fittingThings_35) kc_1 ?_
        refine g_iload_n (i := 2) (x := x2) hC (dX11_fittingThings_36) rfl rfl ?_
        refine g_ishl hC (dX11_fittingThings_37) ?_
        refine g_ior hC (dX11_fittingThings_38) ?_
        refine g_nmi (fun x1_39 e_x1_39 => ?_)
        have e_x1_40 := zle e_x1_39 e_x1_40
        refine g_istore_n (i := 1) (lv2 := [(1, .int x1_39), (0, .ref 0), (2, .int x2)]) hC (dX11_fittingThings_39) rfl (by decide) rfl ?_
        refine g_sub (lv' := [(0, .ref 0), (1, .int x1_39), (2, .int x2)]) [1, 0, 2] rfl ?_
        subst e_x1_40
        exact hJ3
set_option maxHeartbeats 4000000 in
theorem cX11_fittingThings_ok {E : zE} {d : Nat} (hd : 1 ≤ d)  (M : zM) {K : Int32 → Prop} (h : wpO (fX11_fittingThings  M) K) : CMi E d yX11_fittingThings cX11_fittingThings 3 (some .int) [.ref 0] M (fun r N => M = N ∧ K r) := by
  refine CMi.of (by decide) (Nat.le_of_ble_eq_true rfl) (fun Γ hC hr => ?_)
  have hC : Cx E Γ RX11 cX11_fittingThings 3 d := hC
  show G E Γ 3 0 [(0, .ref 0)] [] M
  unfold fX11_fittingThings at h
  refine g_iconst (v := 0) hC (dX11_fittingThings_0) kc_0 ?_
  refine g_istore_n (i := 1) (lv2 := [(1, .int 0), (0, .ref 0)]) hC (dX11_fittingThings_1) rfl (by decide) rfl ?_
  refine g_iconst (v := 0) hC (dX11_fittingThings_2) kc_0 ?_
  refine g_istore_n (i := 2) (lv2 := [(2, .int 0), (1, .int 0), (0, .ref 0)]) hC (dX11_fittingThings_3) rfl (by decide) rfl ?_
  refine g_sub (lv' := [(0, .ref 0), (1, .int 0), (2, .int 0)]) [2, 1, 0] rfl ?_
  refine wpO_bJ h (fun KL4 hKL4 h => ?_)
  refine lX11_fittingThings_4 (K1 := KL4) hC (by omega) M (fun x1_46 h => ?_) _ _ _ h
  have h := hKL4 _ h
  refine g_iload_n (i := 1) (x := x1_46) hC (dX11_fittingThings_46) rfl rfl ?_
  refine g_ireturn hC hr (dX11_fittingThings_47) ?_
  exact ⟨rfl, wpO_s h⟩
/-! LostByState.fits()I -/
theorem dX11_fits_0 : decode cX11_fits 0 = .ok (.aload_n 0, 1) := by decide +kernel
theorem dX11_fits_1 : decode cX11_fits 1 = .ok (.invokevirtual 336, 3) := by decide +kernel
theorem dX11_fits_4 : decode cX11_fits 4 = .ok (.istore_n 1, 1) := by decide +kernel
theorem dX11_fits_5 : decode cX11_fits 5 = .ok (.sipush 255, 3) := by decide +kernel
theorem dX11_fits_8 : decode cX11_fits 8 = .ok (.istore_n 2, 1) := by decide +kernel
theorem dX11_fits_9 : decode cX11_fits 9 = .ok (.iconst 0, 1) := by decide +kernel
theorem dX11_fits_10 : decode cX11_fits 10 = .ok (.istore_n 3, 1) := by decide +kernel
theorem dX11_fits_11 : decode cX11_fits 11 = .ok (.iload_n 3, 1) := by decide +kernel
theorem dX11_fits_12 : decode cX11_fits 12 = .ok (.aload_n 0, 1) := by decide +kernel
theorem dX11_fits_13 : decode cX11_fits 13 = .ok (.getfield 26, 3) := by decide +kernel
theorem dX11_fits_16 : decode cX11_fits 16 = .ok (.getfield 135, 3) := by decide +kernel
theorem dX11_fits_19 : decode cX11_fits 19 = .ok (.if_icmp .ge 29, 3) := by decide +kernel
theorem dX11_fits_22 : decode cX11_fits 22 = .ok (.iload_n 1, 1) := by decide +kernel
theorem dX11_fits_23 : decode cX11_fits 23 = .ok (.iload_n 3, 1) := by decide +kernel
theorem dX11_fits_24 : decode cX11_fits 24 = .ok (.invokestatic 339, 3) := by decide +kernel
theorem dX11_fits_27 : decode cX11_fits 27 = .ok (.ifCond .eq 15, 3) := by decide +kernel
theorem dX11_fits_30 : decode cX11_fits 30 = .ok (.iload_n 2, 1) := by decide +kernel
theorem dX11_fits_31 : decode cX11_fits 31 = .ok (.aload_n 0, 1) := by decide +kernel
theorem dX11_fits_32 : decode cX11_fits 32 = .ok (.getfield 26, 3) := by decide +kernel
theorem dX11_fits_35 : decode cX11_fits 35 = .ok (.getfield 176, 3) := by decide +kernel
theorem dX11_fits_38 : decode cX11_fits 38 = .ok (.iload_n 3, 1) := by decide +kernel
theorem dX11_fits_39 : decode cX11_fits 39 = .ok (.iaload, 1) := by decide +kernel
theorem dX11_fits_40 : decode cX11_fits 40 = .ok (.iand, 1) := by decide +kernel
theorem dX11_fits_41 : decode cX11_fits 41 = .ok (.istore_n 2, 1) := by decide +kernel
theorem dX11_fits_42 : decode cX11_fits 42 = .ok (.iinc 3 1, 3) := by decide +kernel
theorem dX11_fits_45 : decode cX11_fits 45 = .ok (.goto (-34), 3) := by decide +kernel
theorem dX11_fits_48 : decode cX11_fits 48 = .ok (.aload_n 0, 1) := by decide +kernel
theorem dX11_fits_49 : decode cX11_fits 49 = .ok (.getfield 19, 3) := by decide +kernel
theorem dX11_fits_52 : decode cX11_fits 52 = .ok (.invokevirtual 230, 3) := by decide +kernel
theorem dX11_fits_55 : decode cX11_fits 55 = .ok (.aload_n 0, 1) := by decide +kernel
theorem dX11_fits_56 : decode cX11_fits 56 = .ok (.getfield 19, 3) := by decide +kernel
theorem dX11_fits_59 : decode cX11_fits 59 = .ok (.iload_n 1, 1) := by decide +kernel
theorem dX11_fits_60 : decode cX11_fits 60 = .ok (.invokestatic 240, 3) := by decide +kernel
theorem dX11_fits_63 : decode cX11_fits 63 = .ok (.i2l, 1) := by decide +kernel
theorem dX11_fits_64 : decode cX11_fits 64 = .ok (.invokevirtual 233, 3) := by decide +kernel
theorem dX11_fits_67 : decode cX11_fits 67 = .ok (.aload_n 0, 1) := by decide +kernel
theorem dX11_fits_68 : decode cX11_fits 68 = .ok (.getfield 19, 3) := by decide +kernel
theorem dX11_fits_71 : decode cX11_fits 71 = .ok (.iload_n 2, 1) := by decide +kernel
theorem dX11_fits_72 : decode cX11_fits 72 = .ok (.i2l, 1) := by decide +kernel
theorem dX11_fits_73 : decode cX11_fits 73 = .ok (.invokevirtual 233, 3) := by decide +kernel
theorem dX11_fits_76 : decode cX11_fits 76 = .ok (.iload_n 1, 1) := by decide +kernel
theorem dX11_fits_77 : decode cX11_fits 77 = .ok (.ireturn, 1) := by decide +kernel
def fX11_fits_L11 (x1 : Int32) (M : zM) : Nat → Int32 → Int32 → Option Int32
  | 0, _, _ => none
  | n + 1, x2, x3 => if (M.1 5 3) ≤ x3 then (
    some x2)
    else (
    (if (fX11_isOf x1 x3) = 0 then (
    some x2)
    else (
    if zin x3 8 then (
    zlet (x2 &&& (M.1 6 x3.toNatClampNeg)) fun (x2_41 : Int32) =>
    some x2_41) else none) : Option Int32).bind fun (x2_42 : Int32) =>
    fX11_fits_L11 x1 M n x2_42 (x3 + 1))
def fX11_fits  (M : zM) : Option (Int32 × zM) := (fX11_fittingThings M).bind fun (r1 : Int32) =>
  (fX11_fits_L11 r1 M 4000 255 0).bind fun (x2_48 : Int32) =>
  zlet (fX3_begin M) fun (M52 : zM) =>
  (fX3_tell ((fJ6_bitCount_0f7a4 r1).toInt64) M52).bind fun (M64 : zM) =>
  (fX3_tell x2_48.toInt64 M64).bind fun (M73 : zM) =>
  some (r1, M73)
set_option maxHeartbeats 4000000 in
theorem lX11_fits_11 {E : zE} {Γ : zT} {d : Nat} {K1 : Int32 → Prop} (hC : Cx E Γ RX11 cX11_fits 4 d) (hd : 2 ≤ d) (x1 : Int32) (M : zM) (hx : ∀ (x2_48 : Int32), K1 x2_48 → G E Γ 4 48 [(0, .ref 0), (1, .int x1), (2, .int x2_48)] [] M) :
    ∀ (n : Nat) (x2 : Int32) (x3 : Int32), wpO (fX11_fits_L11 x1 M n x2 x3) K1 → G E Γ 4 11 [(0, .ref 0), (1, .int x1), (2, .int x2), (3, .int x3)] [] M := by
  intro n
  induction n with
  | zero =>
    intro x2 x3 h
    exact (wpO_0 h).elim
  | succ n ih =>
    intro x2 x3 h
    rw [fX11_fits_L11.eq_2] at h
    refine g_iload_n (i := 3) (x := x3) hC (dX11_fits_11) rfl rfl ?_
    refine g_aload_n (i := 0) (x := 0) hC (dX11_fits_12) rfl rfl ?_
    refine g_getR (r := 5) hC flX11_26 (dX11_fits_13) rfl rfl rfl ?_
    refine g_getI hC flX11_135 (dX11_fits_16) rfl rfl ?_
    refine g_icmp_ge (tgt := 48) hC (dX11_fits_19) (by decide) (fun c19 => ?_) (fun c19 => ?_)
    · have h := wpO_t c19 h
      refine g_sub (lv' := [(0, .ref 0), (1, .int x1), (2, .int x2)]) [0, 1, 2] rfl ?_
      exact hx _ (wpO_s h)
    · have h := wpO_f c19 h
      refine g_iload_n (i := 1) (x := x1) hC (dX11_fits_22) rfl rfl ?_
      refine g_iload_n (i := 3) (x := x3) hC (dX11_fits_23) rfl rfl ?_
      refine g_callSi ([.int x1, .int x3]) hC wsX11_339 (dX11_fits_24) rfl (by omega) (Nat.le_of_ble_eq_true rfl) (cX11_isOf_ok (by omega) x1 x3 M (K := fun r => r = fX11_isOf x1 x3) rfl) (fun r N q => ?_)
      obtain ⟨rfl, rfl⟩ := q
      refine wpO_bJ h (fun KJ3 hKJ3 h => ?_)
      have hJ3 : ∀ (x2_42 : Int32), KJ3 x2_42 → G E Γ 4 42 [(0, .ref 0), (1, .int x1), (2, .int x2_42), (3, .int x3)] [] M := by
        intro x2_42 h
        have h := hKJ3 _ h
        refine g_iinc (x := x3) (v := (x3 + 1)) (lv2 := [(3, .int (x3 + 1)), (0, .ref 0), (1, .int x1), (2, .int x2_42)]) hC (dX11_fits_42) rfl rfl (by decide) rfl ?_
        refine g_goto (tgt := 11) hC (dX11_fits_45) (by decide) ?_
        refine g_sub (lv' := [(0, .ref 0), (1, .int x1), (2, .int x2_42), (3, .int (x3 + 1))]) [1, 2, 3, 0] rfl ?_
        exact ih _ _ h
      refine g_if_eq (tgt := 42) hC (dX11_fits_27) (by decide) (fun c27 => ?_) (fun c27 => ?_)
      · have h := wpO_t c27 h
        exact hJ3 _ (wpO_s h)
      · have h := wpO_f c27 h
        refine g_iload_n (i := 2) (x := x2) hC (dX11_fits_30) rfl rfl ?_
        refine g_aload_n (i := 0) (x := 0) hC (dX11_fits_31) rfl rfl ?_
        refine g_getR (r := 5) hC flX11_26 (dX11_fits_32) rfl rfl rfl ?_
        refine g_getR (r := 6) hC flX11_176 (dX11_fits_35) rfl rfl rfl ?_
        refine g_iload_n (i := 3) (x := x3) hC (dX11_fits_38) rfl rfl ?_
        obtain ⟨q4, h⟩ := wpO_g h
        refine g_iaload (n := 8) hC (dX11_fits_39) rfl q4 ?_
        refine g_iand hC (dX11_fits_40) ?_
        refine g_nmi (fun x2_41 e_x2_41 => ?_)
        have h := wpO_n e_x2_41 h
        refine g_istore_n (i := 2) (lv2 := [(2, .int x2_41), (0, .ref 0), (1, .int x1), (3, .int x3)]) hC (dX11_fits_41) rfl (by decide) rfl ?_
        refine g_sub (lv' := [(0, .ref 0), (1, .int x1), (2, .int x2_41), (3, .int x3)]) [1, 2, 0, 3] rfl ?_
        exact hJ3 _ (wpO_s h)
set_option maxHeartbeats 4000000 in
theorem cX11_fits_ok {E : zE} {d : Nat} (hd : 2 ≤ d)  (M : zM) {K : (Int32 × zM) → Prop} (h : wpO (fX11_fits  M) K) : CMi E d yX11_fits cX11_fits 4 (some .int) [.ref 0] M (fun r N => K (r, N)) := by
  refine CMi.of (by decide) (Nat.le_of_ble_eq_true rfl) (fun Γ hC hr => ?_)
  have hC : Cx E Γ RX11 cX11_fits 4 d := hC
  show G E Γ 4 0 [(0, .ref 0)] [] M
  unfold fX11_fits at h
  refine g_aload_n (i := 0) (x := 0) hC (dX11_fits_0) rfl rfl ?_
  have h := wpO_b h
  refine g_callVi ([]) hC wvX11_336 (dX11_fits_1) rfl rfl (by omega) (Nat.le_of_ble_eq_true rfl) (cX11_fittingThings_ok (by omega) M h) (fun r1 N q => ?_)
  obtain ⟨rfl, h⟩ := q
  refine g_istore_n (i := 1) (lv2 := [(1, .int r1), (0, .ref 0)]) hC (dX11_fits_4) rfl (by decide) rfl ?_
  refine g_sipush (v := 255) hC (dX11_fits_5) ks_255 ?_
  refine g_istore_n (i := 2) (lv2 := [(2, .int 255), (1, .int r1), (0, .ref 0)]) hC (dX11_fits_8) rfl (by decide) rfl ?_
  refine g_iconst (v := 0) hC (dX11_fits_9) kc_0 ?_
  refine g_istore_n (i := 3) (lv2 := [(3, .int 0), (2, .int 255), (1, .int r1), (0, .ref 0)]) hC (dX11_fits_10) rfl (by decide) rfl ?_
  refine g_sub (lv' := [(0, .ref 0), (1, .int r1), (2, .int 255), (3, .int 0)]) [3, 2, 1, 0] rfl ?_
  refine wpO_bJ h (fun KL11 hKL11 h => ?_)
  refine lX11_fits_11 (K1 := KL11) hC (by omega) r1 M (fun x2_48 h => ?_) _ _ _ h
  have h := hKL11 _ h
  refine g_aload_n (i := 0) (x := 0) hC (dX11_fits_48) rfl rfl ?_
  refine g_getR (r := 3) hC flX11_19 (dX11_fits_49) rfl rfl rfl ?_
  refine g_callVv ([]) hC wvX11_230 (dX11_fits_52) rfl rfl (by omega) (Nat.le_of_ble_eq_true rfl) (cX3_begin_ok (by omega) M (K := fun r => r = fX3_begin M) rfl) (fun N q => ?_)
  subst q
  refine g_nmM (fun M52 e_M52 => ?_)
  have h := wpO_n e_M52 h
  refine g_aload_n (i := 0) (x := 0) hC (dX11_fits_55) rfl rfl ?_
  refine g_getR (r := 3) hC flX11_19 (dX11_fits_56) rfl rfl rfl ?_
  refine g_iload_n (i := 1) (x := r1) hC (dX11_fits_59) rfl rfl ?_
  refine g_callSi ([.int r1]) hC wsX11_240 (dX11_fits_60) rfl (by omega) (Nat.le_of_ble_eq_true rfl) (cJ6_bitCount_0f7a4_ok (by omega) r1 M52 (K := fun r => r = fJ6_bitCount_0f7a4 r1) rfl) (fun r N q => ?_)
  obtain ⟨rfl, rfl⟩ := q
  refine g_i2l hC (dX11_fits_63) ?_
  have h := wpO_b h
  refine g_callVv ([.long ((fJ6_bitCount_0f7a4 r1).toInt64)]) hC wvX11_233 (dX11_fits_64) rfl rfl (by omega) (Nat.le_of_ble_eq_true rfl) (cX3_tell_ok (by omega) ((fJ6_bitCount_0f7a4 r1).toInt64) M52 h) (fun M64 h => ?_)
  refine g_aload_n (i := 0) (x := 0) hC (dX11_fits_67) rfl rfl ?_
  refine g_getR (r := 3) hC flX11_19 (dX11_fits_68) rfl rfl rfl ?_
  refine g_iload_n (i := 2) (x := x2_48) hC (dX11_fits_71) rfl rfl ?_
  refine g_i2l hC (dX11_fits_72) ?_
  have h := wpO_b h
  refine g_callVv ([.long x2_48.toInt64]) hC wvX11_233 (dX11_fits_73) rfl rfl (by omega) (Nat.le_of_ble_eq_true rfl) (cX3_tell_ok (by omega) x2_48.toInt64 M64 h) (fun M73 h => ?_)
  refine g_iload_n (i := 1) (x := r1) hC (dX11_fits_76) rfl rfl ?_
  refine g_ireturn hC hr (dX11_fits_77) ?_
  exact wpO_s h
/-! LostByState.ask()I -/
theorem dX11_ask_0 : decode cX11_ask 0 = .ok (.aload_n 0, 1) := by decide +kernel
theorem dX11_ask_1 : decode cX11_ask 1 = .ok (.invokevirtual 336, 3) := by decide +kernel
theorem dX11_ask_4 : decode cX11_ask 4 = .ok (.istore_n 1, 1) := by decide +kernel
theorem dX11_ask_5 : decode cX11_ask 5 = .ok (.iload_n 1, 1) := by decide +kernel
theorem dX11_ask_6 : decode cX11_ask 6 = .ok (.ifCond .ne 6, 3) := by decide +kernel
theorem dX11_ask_9 : decode cX11_ask 9 = .ok (.bipush (-2), 2) := by decide +kernel
theorem dX11_ask_11 : decode cX11_ask 11 = .ok (.ireturn, 1) := by decide +kernel
theorem dX11_ask_12 : decode cX11_ask 12 = .ok (.iload_n 1, 1) := by decide +kernel
theorem dX11_ask_13 : decode cX11_ask 13 = .ok (.invokestatic 240, 3) := by decide +kernel
theorem dX11_ask_16 : decode cX11_ask 16 = .ok (.istore_n 2, 1) := by decide +kernel
theorem dX11_ask_17 : decode cX11_ask 17 = .ok (.iconst 0, 1) := by decide +kernel
theorem dX11_ask_18 : decode cX11_ask 18 = .ok (.istore_n 3, 1) := by decide +kernel
theorem dX11_ask_19 : decode cX11_ask 19 = .ok (.iload_n 2, 1) := by decide +kernel
theorem dX11_ask_20 : decode cX11_ask 20 = .ok (.iconst 1, 1) := by decide +kernel
theorem dX11_ask_21 : decode cX11_ask 21 = .ok (.iadd, 1) := by decide +kernel
theorem dX11_ask_22 : decode cX11_ask 22 = .ok (.istore 4, 2) := by decide +kernel
theorem dX11_ask_24 : decode cX11_ask 24 = .ok (.iconst 0, 1) := by decide +kernel
theorem dX11_ask_25 : decode cX11_ask 25 = .ok (.istore 5, 2) := by decide +kernel
theorem dX11_ask_27 : decode cX11_ask 27 = .ok (.iload 5, 2) := by decide +kernel
theorem dX11_ask_29 : decode cX11_ask 29 = .ok (.bipush 8, 2) := by decide +kernel
theorem dX11_ask_31 : decode cX11_ask 31 = .ok (.if_icmp .ge 50, 3) := by decide +kernel
theorem dX11_ask_34 : decode cX11_ask 34 = .ok (.iload_n 1, 1) := by decide +kernel
theorem dX11_ask_35 : decode cX11_ask 35 = .ok (.aload_n 0, 1) := by decide +kernel
theorem dX11_ask_36 : decode cX11_ask 36 = .ok (.getfield 26, 3) := by decide +kernel
theorem dX11_ask_39 : decode cX11_ask 39 = .ok (.iload 5, 2) := by decide +kernel
theorem dX11_ask_41 : decode cX11_ask 41 = .ok (.invokevirtual 343, 3) := by decide +kernel
theorem dX11_ask_44 : decode cX11_ask 44 = .ok (.iand, 1) := by decide +kernel
theorem dX11_ask_45 : decode cX11_ask 45 = .ok (.invokestatic 240, 3) := by decide +kernel
theorem dX11_ask_48 : decode cX11_ask 48 = .ok (.istore 6, 2) := by decide +kernel
theorem dX11_ask_50 : decode cX11_ask 50 = .ok (.iload 6, 2) := by decide +kernel
theorem dX11_ask_52 : decode cX11_ask 52 = .ok (.iload_n 2, 1) := by decide +kernel
theorem dX11_ask_53 : decode cX11_ask 53 = .ok (.iload 6, 2) := by decide +kernel
theorem dX11_ask_55 : decode cX11_ask 55 = .ok (.isub, 1) := by decide +kernel
theorem dX11_ask_56 : decode cX11_ask 56 = .ok (.invokestatic 346, 3) := by decide +kernel
theorem dX11_ask_59 : decode cX11_ask 59 = .ok (.istore 7, 2) := by decide +kernel
theorem dX11_ask_61 : decode cX11_ask 61 = .ok (.iload 7, 2) := by decide +kernel
theorem dX11_ask_63 : decode cX11_ask 63 = .ok (.iload 4, 2) := by decide +kernel
theorem dX11_ask_65 : decode cX11_ask 65 = .ok (.if_icmp .ge 10, 3) := by decide +kernel
theorem dX11_ask_68 : decode cX11_ask 68 = .ok (.iload 7, 2) := by decide +kernel
theorem dX11_ask_70 : decode cX11_ask 70 = .ok (.istore 4, 2) := by decide +kernel
theorem dX11_ask_72 : decode cX11_ask 72 = .ok (.iload 5, 2) := by decide +kernel
theorem dX11_ask_74 : decode cX11_ask 74 = .ok (.istore_n 3, 1) := by decide +kernel
theorem dX11_ask_75 : decode cX11_ask 75 = .ok (.iinc 5 1, 3) := by decide +kernel
theorem dX11_ask_78 : decode cX11_ask 78 = .ok (.goto (-51), 3) := by decide +kernel
theorem dX11_ask_81 : decode cX11_ask 81 = .ok (.aload_n 0, 1) := by decide +kernel
theorem dX11_ask_82 : decode cX11_ask 82 = .ok (.getfield 19, 3) := by decide +kernel
theorem dX11_ask_85 : decode cX11_ask 85 = .ok (.invokevirtual 230, 3) := by decide +kernel
theorem dX11_ask_88 : decode cX11_ask 88 = .ok (.aload_n 0, 1) := by decide +kernel
theorem dX11_ask_89 : decode cX11_ask 89 = .ok (.getfield 19, 3) := by decide +kernel
theorem dX11_ask_92 : decode cX11_ask 92 = .ok (.iload 4, 2) := by decide +kernel
theorem dX11_ask_94 : decode cX11_ask 94 = .ok (.i2l, 1) := by decide +kernel
theorem dX11_ask_95 : decode cX11_ask 95 = .ok (.invokevirtual 233, 3) := by decide +kernel
theorem dX11_ask_98 : decode cX11_ask 98 = .ok (.iload_n 3, 1) := by decide +kernel
theorem dX11_ask_99 : decode cX11_ask 99 = .ok (.ireturn, 1) := by decide +kernel
def fX11_ask_L27 (x1 : Int32) (x2 : Int32) (M : zM) : Nat → Int32 → Int32 → Int32 → Option (Int32 × Int32)
  | 0, _, _, _ => none
  | n + 1, x3, x4, x5 => if 8 ≤ x5 then (
    some (x3, x4))
    else (
    (fX7_thingsMarked x5 M).bind fun (r3 : Int32) =>
    zlet (fJ6_bitCount_0f7a4 (x1 &&& r3)) fun (x6_48 : Int32) =>
    zlet (zmax x6_48 (x2 - x6_48)) fun (x7_59 : Int32) =>
    zlet (if x4 ≤ x7_59 then (
    x3)
    else (
    x5)) fun (x3_75 : Int32) =>
    zlet (if x4 ≤ x7_59 then (
    x4)
    else (
    x7_59)) fun (x4_75 : Int32) =>
    fX11_ask_L27 x1 x2 M n x3_75 x4_75 (x5 + 1))
def fX11_ask  (M : zM) : Option (Int32 × zM) := (fX11_fittingThings M).bind fun (r1 : Int32) =>
  if r1 = 0 then (
  some ((-2), M))
  else (
  zlet (fJ6_bitCount_0f7a4 r1) fun (x2_16 : Int32) =>
  zlet (x2_16 + 1) fun (x4_22 : Int32) =>
  (fX11_ask_L27 r1 x2_16 M 4000 0 x4_22 0).bind fun (q : Int32 × Int32) => zp q fun x3_81 x4_81 =>
  zlet (fX3_begin M) fun (M85 : zM) =>
  (fX3_tell x4_81.toInt64 M85).bind fun (M95 : zM) =>
  some (x3_81, M95))
set_option maxHeartbeats 4000000 in
theorem lX11_ask_27 {E : zE} {Γ : zT} {d : Nat} {K1 : (Int32 × Int32) → Prop} (hC : Cx E Γ RX11 cX11_ask 8 d) (hd : 2 ≤ d) (x1 : Int32) (x2 : Int32) (M : zM) (hx : ∀ (x3_81 : Int32) (x4_81 : Int32), K1 (x3_81, x4_81) → G E Γ 8 81 [(0, .ref 0), (3, .int x3_81), (4, .int x4_81)] [] M) :
    ∀ (n : Nat) (x3 : Int32) (x4 : Int32) (x5 : Int32), wpO (fX11_ask_L27 x1 x2 M n x3 x4 x5) K1 → G E Γ 8 27 [(0, .ref 0), (1, .int x1), (2, .int x2), (3, .int x3), (4, .int x4), (5, .int x5)] [] M := by
  intro n
  induction n with
  | zero =>
    intro x3 x4 x5 h
    exact (wpO_0 h).elim
  | succ n ih =>
    intro x3 x4 x5 h
    rw [fX11_ask_L27.eq_2] at h
    refine g_iload (i := 5) (x := x5) hC (dX11_ask_27) rfl ?_
    refine g_bipush (v := 8) hC (dX11_ask_29) kb_8 ?_
    refine g_icmp_ge (tgt := 81) hC (dX11_ask_31) (by decide) (fun c31 => ?_) (fun c31 => ?_)
    · have h := wpO_t c31 h
      refine g_sub (lv' := [(0, .ref 0), (3, .int x3), (4, .int x4)]) [0, 3, 4] rfl ?_
      exact hx _ _ (wpO_s h)
    · have h := wpO_f c31 h
      refine g_iload_n (i := 1) (x := x1) hC (dX11_ask_34) rfl rfl ?_
      refine g_aload_n (i := 0) (x := 0) hC (dX11_ask_35) rfl rfl ?_
      refine g_getR (r := 5) hC flX11_26 (dX11_ask_36) rfl rfl rfl ?_
      refine g_iload (i := 5) (x := x5) hC (dX11_ask_39) rfl ?_
      have h := wpO_b h
      refine g_callVi ([.int x5]) hC wvX11_343 (dX11_ask_41) rfl rfl (by omega) (Nat.le_of_ble_eq_true rfl) (cX7_thingsMarked_ok (by omega) x5 M h) (fun r3 N q => ?_)
      obtain ⟨rfl, h⟩ := q
      refine g_iand hC (dX11_ask_44) ?_
      refine g_callSi ([.int (x1 &&& r3)]) hC wsX11_240 (dX11_ask_45) rfl (by omega) (Nat.le_of_ble_eq_true rfl) (cJ6_bitCount_0f7a4_ok (by omega) (x1 &&& r3) M (K := fun r => r = fJ6_bitCount_0f7a4 (x1 &&& r3)) rfl) (fun r N q => ?_)
      obtain ⟨rfl, rfl⟩ := q
      refine g_nmi (fun x6_48 e_x6_48 => ?_)
      have h := wpO_n e_x6_48 h
      refine g_istore (i := 6) (lv2 := [(6, .int x6_48), (0, .ref 0), (1, .int x1), (2, .int x2), (3, .int x3), (4, .int x4), (5, .int x5)]) hC (dX11_ask_48) (by decide) rfl ?_
      refine g_iload (i := 6) (x := x6_48) hC (dX11_ask_50) rfl ?_
      refine g_iload_n (i := 2) (x := x2) hC (dX11_ask_52) rfl rfl ?_
      refine g_iload (i := 6) (x := x6_48) hC (dX11_ask_53) rfl ?_
      refine g_isub hC (dX11_ask_55) ?_
      refine g_max hC wmX11_346 (dX11_ask_56) (by omega) (Nat.le_of_ble_eq_true rfl) ?_
      refine g_nmi (fun x7_59 e_x7_59 => ?_)
      have h := wpO_n e_x7_59 h
      refine g_istore (i := 7) (lv2 := [(7, .int x7_59), (6, .int x6_48), (0, .ref 0), (1, .int x1), (2, .int x2), (3, .int x3), (4, .int x4), (5, .int x5)]) hC (dX11_ask_59) (by decide) rfl ?_
      refine g_iload (i := 7) (x := x7_59) hC (dX11_ask_61) rfl ?_
      refine g_iload (i := 4) (x := x4) hC (dX11_ask_63) rfl ?_
      obtain ⟨x3_75, e_x3_75, h⟩ := wpO_l h
      obtain ⟨x4_75, e_x4_75, h⟩ := wpO_l h
      have hJ5 : G E Γ 8 75 [(0, .ref 0), (1, .int x1), (2, .int x2), (3, .int x3_75), (4, .int x4_75), (5, .int x5)] [] M := by
        refine g_iinc (x := x5) (v := (x5 + 1)) (lv2 := [(5, .int (x5 + 1)), (0, .ref 0), (1, .int x1), (2, .int x2), (3, .int x3_75), (4, .int x4_75)]) hC (dX11_ask_75) rfl rfl (by decide) rfl ?_
        refine g_goto (tgt := 27) hC (dX11_ask_78) (by decide) ?_
        refine g_sub (lv' := [(0, .ref 0), (1, .int x1), (2, .int x2), (3, .int x3_75), (4, .int x4_75), (5, .int (x5 + 1))]) [1, 2, 3, 4, 5, 0] rfl ?_
        exact ih _ _ _ h
      refine g_icmp_ge (tgt := 75) hC (dX11_ask_65) (by decide) (fun c65 => ?_) (fun c65 => ?_)
      · rw [if_pos c65] at e_x3_75 e_x4_75
        refine g_sub (lv' := [(0, .ref 0), (1, .int x1), (2, .int x2), (3, .int x3), (4, .int x4), (5, .int x5)]) [2, 3, 4, 5, 6, 7] rfl ?_
        subst e_x3_75
        subst e_x4_75
        exact hJ5
      · rw [if_neg c65] at e_x3_75 e_x4_75
        refine g_iload (i := 7) (x := x7_59) hC (dX11_ask_68) rfl ?_
        refine g_istore (i := 4) (lv2 := [(4, .int x7_59), (7, .int x7_59), (6, .int x6_48), (0, .ref 0), (1, .int x1), (2, .int x2), (3, .int x3), (5, .int x5)]) hC (dX11_ask_70) (by decide) rfl ?_
        refine g_iload (i := 5) (x := x5) hC (dX11_ask_72) rfl ?_
        refine g_istore_n (i := 3) (lv2 := [(3, .int x5), (4, .int x7_59), (7, .int x7_59), (6, .int x6_48), (0, .ref 0), (1, .int x1), (2, .int x2), (5, .int x5)]) hC (dX11_ask_74) rfl (by decide) rfl ?_
        refine g_sub (lv' := [(0, .ref 0), (1, .int x1), (2, .int x2), (3, .int x5), (4, .int x7_59), (5, .int x5)]) [4, 5, 6, 0, 1, 7] rfl ?_
        subst e_x3_75
        subst e_x4_75
        exact hJ5
set_option maxHeartbeats 4000000 in
theorem cX11_ask_ok {E : zE} {d : Nat} (hd : 2 ≤ d)  (M : zM) {K : (Int32 × zM) → Prop} (h : wpO (fX11_ask  M) K) : CMi E d yX11_ask cX11_ask 8 (some .int) [.ref 0] M (fun r N => K (r, N)) := by
  refine CMi.of (by decide) (Nat.le_of_ble_eq_true rfl) (fun Γ hC hr => ?_)
  have hC : Cx E Γ RX11 cX11_ask 8 d := hC
  show G E Γ 8 0 [(0, .ref 0)] [] M
  unfold fX11_ask at h
  refine g_aload_n (i := 0) (x := 0) hC (dX11_ask_0) rfl rfl ?_
  have h := wpO_b h
  refine g_callVi ([]) hC wvX11_336 (dX11_ask_1) rfl rfl (by omega) (Nat.le_of_ble_eq_true rfl) (cX11_fittingThings_ok (by omega) M h) (fun r1 N q => ?_)
  obtain ⟨rfl, h⟩ := q
  refine g_istore_n (i := 1) (lv2 := [(1, .int r1), (0, .ref 0)]) hC (dX11_ask_4) rfl (by decide) rfl ?_
  refine g_iload_n (i := 1) (x := r1) hC (dX11_ask_5) rfl rfl ?_
  refine g_if_ne (tgt := 12) hC (dX11_ask_6) (by decide) (fun c6 => ?_) (fun c6 => ?_)
  · have h := wpO_f c6 h
    refine g_iload_n (i := 1) (x := r1) hC (dX11_ask_12) rfl rfl ?_
    refine g_callSi ([.int r1]) hC wsX11_240 (dX11_ask_13) rfl (by omega) (Nat.le_of_ble_eq_true rfl) (cJ6_bitCount_0f7a4_ok (by omega) r1 M (K := fun r => r = fJ6_bitCount_0f7a4 r1) rfl) (fun r N q => ?_)
    obtain ⟨rfl, rfl⟩ := q
    refine g_nmi (fun x2_16 e_x2_16 => ?_)
    have h := wpO_n e_x2_16 h
    refine g_istore_n (i := 2) (lv2 := [(2, .int x2_16), (1, .int r1), (0, .ref 0)]) hC (dX11_ask_16) rfl (by decide) rfl ?_
    refine g_iconst (v := 0) hC (dX11_ask_17) kc_0 ?_
    refine g_istore_n (i := 3) (lv2 := [(3, .int 0), (2, .int x2_16), (1, .int r1), (0, .ref 0)]) hC (dX11_ask_18) rfl (by decide) rfl ?_
    refine g_iload_n (i := 2) (x := x2_16) hC (dX11_ask_19) rfl rfl ?_
    refine g_iconst (v := 1) hC (dX11_ask_20) kc_1 ?_
    refine g_iadd hC (dX11_ask_21) ?_
    refine g_nmi (fun x4_22 e_x4_22 => ?_)
    have h := wpO_n e_x4_22 h
    refine g_istore (i := 4) (lv2 := [(4, .int x4_22), (3, .int 0), (2, .int x2_16), (1, .int r1), (0, .ref 0)]) hC (dX11_ask_22) (by decide) rfl ?_
    refine g_iconst (v := 0) hC (dX11_ask_24) kc_0 ?_
    refine g_istore (i := 5) (lv2 := [(5, .int 0), (4, .int x4_22), (3, .int 0), (2, .int x2_16), (1, .int r1), (0, .ref 0)]) hC (dX11_ask_25) (by decide) rfl ?_
    refine g_sub (lv' := [(0, .ref 0), (1, .int r1), (2, .int x2_16), (3, .int 0), (4, .int x4_22), (5, .int 0)]) [5, 4, 3, 2, 1, 0] rfl ?_
    refine wpO_bJ h (fun KL27 hKL27 h => ?_)
    refine lX11_ask_27 (K1 := KL27) hC (by omega) r1 x2_16 M (fun x3_81 x4_81 h => ?_) _ _ _ _ h
    have h := hKL27 _ h
    have h := wpO_p h
    refine g_aload_n (i := 0) (x := 0) hC (dX11_ask_81) rfl rfl ?_
    refine g_getR (r := 3) hC flX11_19 (dX11_ask_82) rfl rfl rfl ?_
    refine g_callVv ([]) hC wvX11_230 (dX11_ask_85) rfl rfl (by omega) (Nat.le_of_ble_eq_true rfl) (cX3_begin_ok (by omega) M (K := fun r => r = fX3_begin M) rfl) (fun N q => ?_)
    subst q
    refine g_nmM (fun M85 e_M85 => ?_)
    have h := wpO_n e_M85 h
    refine g_aload_n (i := 0) (x := 0) hC (dX11_ask_88) rfl rfl ?_
    refine g_getR (r := 3) hC flX11_19 (dX11_ask_89) rfl rfl rfl ?_
    refine g_iload (i := 4) (x := x4_81) hC (dX11_ask_92) rfl ?_
    refine g_i2l hC (dX11_ask_94) ?_
    have h := wpO_b h
    refine g_callVv ([.long x4_81.toInt64]) hC wvX11_233 (dX11_ask_95) rfl rfl (by omega) (Nat.le_of_ble_eq_true rfl) (cX3_tell_ok (by omega) x4_81.toInt64 M85 h) (fun M95 h => ?_)
    refine g_iload_n (i := 3) (x := x3_81) hC (dX11_ask_98) rfl rfl ?_
    refine g_ireturn hC hr (dX11_ask_99) ?_
    exact wpO_s h
  · have h := wpO_t c6 h
    refine g_bipush (v := (-2)) hC (dX11_ask_9) kb_m2 ?_
    refine g_ireturn hC hr (dX11_ask_11) ?_
    exact wpO_s h
/-! LostByState.tellsApart()I -/
theorem dX11_tellsApart_0 : decode cX11_tellsApart 0 = .ok (.iconst (-1), 1) := by decide +kernel
theorem dX11_tellsApart_1 : decode cX11_tellsApart 1 = .ok (.istore_n 1, 1) := by decide +kernel
theorem dX11_tellsApart_2 : decode cX11_tellsApart 2 = .ok (.bipush 9, 2) := by decide +kernel
theorem dX11_tellsApart_4 : decode cX11_tellsApart 4 = .ok (.istore_n 2, 1) := by decide +kernel
theorem dX11_tellsApart_5 : decode cX11_tellsApart 5 = .ok (.iconst 0, 1) := by decide +kernel
theorem dX11_tellsApart_6 : decode cX11_tellsApart 6 = .ok (.istore_n 3, 1) := by decide +kernel
theorem dX11_tellsApart_7 : decode cX11_tellsApart 7 = .ok (.iload_n 3, 1) := by decide +kernel
theorem dX11_tellsApart_8 : decode cX11_tellsApart 8 = .ok (.sipush 256, 3) := by decide +kernel
theorem dX11_tellsApart_11 : decode cX11_tellsApart 11 = .ok (.if_icmp .ge 37, 3) := by decide +kernel
theorem dX11_tellsApart_14 : decode cX11_tellsApart 14 = .ok (.iload_n 3, 1) := by decide +kernel
theorem dX11_tellsApart_15 : decode cX11_tellsApart 15 = .ok (.invokestatic 240, 3) := by decide +kernel
theorem dX11_tellsApart_18 : decode cX11_tellsApart 18 = .ok (.istore 4, 2) := by decide +kernel
theorem dX11_tellsApart_20 : decode cX11_tellsApart 20 = .ok (.iload 4, 2) := by decide +kernel
theorem dX11_tellsApart_22 : decode cX11_tellsApart 22 = .ok (.iload_n 2, 1) := by decide +kernel
theorem dX11_tellsApart_23 : decode cX11_tellsApart 23 = .ok (.if_icmp .ge 19, 3) := by decide +kernel
theorem dX11_tellsApart_26 : decode cX11_tellsApart 26 = .ok (.aload_n 0, 1) := by decide +kernel
theorem dX11_tellsApart_27 : decode cX11_tellsApart 27 = .ok (.getfield 26, 3) := by decide +kernel
theorem dX11_tellsApart_30 : decode cX11_tellsApart 30 = .ok (.iload_n 3, 1) := by decide +kernel
theorem dX11_tellsApart_31 : decode cX11_tellsApart 31 = .ok (.invokevirtual 351, 3) := by decide +kernel
theorem dX11_tellsApart_34 : decode cX11_tellsApart 34 = .ok (.ifCond .eq 8, 3) := by decide +kernel
theorem dX11_tellsApart_37 : decode cX11_tellsApart 37 = .ok (.iload_n 3, 1) := by decide +kernel
theorem dX11_tellsApart_38 : decode cX11_tellsApart 38 = .ok (.istore_n 1, 1) := by decide +kernel
theorem dX11_tellsApart_39 : decode cX11_tellsApart 39 = .ok (.iload 4, 2) := by decide +kernel
theorem dX11_tellsApart_41 : decode cX11_tellsApart 41 = .ok (.istore_n 2, 1) := by decide +kernel
theorem dX11_tellsApart_42 : decode cX11_tellsApart 42 = .ok (.iinc 3 1, 3) := by decide +kernel
theorem dX11_tellsApart_45 : decode cX11_tellsApart 45 = .ok (.goto (-38), 3) := by decide +kernel
theorem dX11_tellsApart_48 : decode cX11_tellsApart 48 = .ok (.iload_n 1, 1) := by decide +kernel
theorem dX11_tellsApart_49 : decode cX11_tellsApart 49 = .ok (.ifCond .ge 6, 3) := by decide +kernel
theorem dX11_tellsApart_52 : decode cX11_tellsApart 52 = .ok (.bipush (-2), 2) := by decide +kernel
theorem dX11_tellsApart_54 : decode cX11_tellsApart 54 = .ok (.ireturn, 1) := by decide +kernel
theorem dX11_tellsApart_55 : decode cX11_tellsApart 55 = .ok (.aload_n 0, 1) := by decide +kernel
theorem dX11_tellsApart_56 : decode cX11_tellsApart 56 = .ok (.getfield 19, 3) := by decide +kernel
theorem dX11_tellsApart_59 : decode cX11_tellsApart 59 = .ok (.invokevirtual 230, 3) := by decide +kernel
theorem dX11_tellsApart_62 : decode cX11_tellsApart 62 = .ok (.aload_n 0, 1) := by decide +kernel
theorem dX11_tellsApart_63 : decode cX11_tellsApart 63 = .ok (.getfield 19, 3) := by decide +kernel
theorem dX11_tellsApart_66 : decode cX11_tellsApart 66 = .ok (.iload_n 1, 1) := by decide +kernel
theorem dX11_tellsApart_67 : decode cX11_tellsApart 67 = .ok (.i2l, 1) := by decide +kernel
theorem dX11_tellsApart_68 : decode cX11_tellsApart 68 = .ok (.invokevirtual 233, 3) := by decide +kernel
theorem dX11_tellsApart_71 : decode cX11_tellsApart 71 = .ok (.iload_n 2, 1) := by decide +kernel
theorem dX11_tellsApart_72 : decode cX11_tellsApart 72 = .ok (.ireturn, 1) := by decide +kernel
def fX11_tellsApart_L7 (M : zM) : Nat → Int32 → Int32 → Int32 → Option (Int32 × Int32)
  | 0, _, _, _ => none
  | n + 1, x1, x2, x3 => if 256 ≤ x3 then (
    some (x1, x2))
    else (
    zlet (fJ6_bitCount_0f7a4 x3) fun (x4_18 : Int32) =>
    (if x2 ≤ x4_18 then (
    some (x1, x2))
    else (
    (fX7_allDifferIn x3 M).bind fun (r3 : Int32) =>
    if r3 = 0 then (
    some (x1, x2))
    else (
    some (x3, x4_18))) : Option (Int32 × Int32)).bind fun (q : Int32 × Int32) => zp q fun x1_42 x2_42 =>
    fX11_tellsApart_L7 M n x1_42 x2_42 (x3 + 1))
def fX11_tellsApart  (M : zM) : Option (Int32 × zM) := (fX11_tellsApart_L7 M 4000 (-1) 9 0).bind fun (q : Int32 × Int32) => zp q fun x1_48 x2_48 =>
  if 0 ≤ x1_48 then (
  zlet (fX3_begin M) fun (M59 : zM) =>
  (fX3_tell x1_48.toInt64 M59).bind fun (M68 : zM) =>
  some (x2_48, M68))
  else (
  some ((-2), M))
set_option maxHeartbeats 4000000 in
theorem lX11_tellsApart_7 {E : zE} {Γ : zT} {d : Nat} {K1 : (Int32 × Int32) → Prop} (hC : Cx E Γ RX11 cX11_tellsApart 5 d) (hd : 1 ≤ d) (M : zM) (hx : ∀ (x1_48 : Int32) (x2_48 : Int32), K1 (x1_48, x2_48) → G E Γ 5 48 [(0, .ref 0), (1, .int x1_48), (2, .int x2_48)] [] M) :
    ∀ (n : Nat) (x1 : Int32) (x2 : Int32) (x3 : Int32), wpO (fX11_tellsApart_L7 M n x1 x2 x3) K1 → G E Γ 5 7 [(0, .ref 0), (1, .int x1), (2, .int x2), (3, .int x3)] [] M := by
  intro n
  induction n with
  | zero =>
    intro x1 x2 x3 h
    exact (wpO_0 h).elim
  | succ n ih =>
    intro x1 x2 x3 h
    rw [fX11_tellsApart_L7.eq_2] at h
    refine g_iload_n (i := 3) (x := x3) hC (dX11_tellsApart_7) rfl rfl ?_
    refine g_sipush (v := 256) hC (dX11_tellsApart_8) ks_256 ?_
    refine g_icmp_ge (tgt := 48) hC (dX11_tellsApart_11) (by decide) (fun c11 => ?_) (fun c11 => ?_)
    · have h := wpO_t c11 h
      refine g_sub (lv' := [(0, .ref 0), (1, .int x1), (2, .int x2)]) [0, 1, 2] rfl ?_
      exact hx _ _ (wpO_s h)
    · have h := wpO_f c11 h
      refine g_iload_n (i := 3) (x := x3) hC (dX11_tellsApart_14) rfl rfl ?_
      refine g_callSi ([.int x3]) hC wsX11_240 (dX11_tellsApart_15) rfl (by omega) (Nat.le_of_ble_eq_true rfl) (cJ6_bitCount_0f7a4_ok (by omega) x3 M (K := fun r => r = fJ6_bitCount_0f7a4 x3) rfl) (fun r N q => ?_)
      obtain ⟨rfl, rfl⟩ := q
      refine g_nmi (fun x4_18 e_x4_18 => ?_)
      have h := wpO_n e_x4_18 h
      refine g_istore (i := 4) (lv2 := [(4, .int x4_18), (0, .ref 0), (1, .int x1), (2, .int x2), (3, .int x3)]) hC (dX11_tellsApart_18) (by decide) rfl ?_
      refine g_iload (i := 4) (x := x4_18) hC (dX11_tellsApart_20) rfl ?_
      refine g_iload_n (i := 2) (x := x2) hC (dX11_tellsApart_22) rfl rfl ?_
      refine wpO_bJ h (fun KJ2 hKJ2 h => ?_)
      have hJ2 : ∀ (x1_42 : Int32) (x2_42 : Int32), KJ2 (x1_42, x2_42) → G E Γ 5 42 [(0, .ref 0), (1, .int x1_42), (2, .int x2_42), (3, .int x3)] [] M := by
        intro x1_42 x2_42 h
        have h := hKJ2 _ h
        have h := wpO_p h
        refine g_iinc (x := x3) (v := (x3 + 1)) (lv2 := [(3, .int (x3 + 1)), (0, .ref 0), (1, .int x1_42), (2, .int x2_42)]) hC (dX11_tellsApart_42) rfl rfl (by decide) rfl ?_
        refine g_goto (tgt := 7) hC (dX11_tellsApart_45) (by decide) ?_
        refine g_sub (lv' := [(0, .ref 0), (1, .int x1_42), (2, .int x2_42), (3, .int (x3 + 1))]) [1, 2, 3, 0] rfl ?_
        exact ih _ _ _ h
      refine g_icmp_ge (tgt := 42) hC (dX11_tellsApart_23) (by decide) (fun c23 => ?_) (fun c23 => ?_)
      · have h := wpO_t c23 h
        refine g_sub (lv' := [(0, .ref 0), (1, .int x1), (2, .int x2), (3, .int x3)]) [1, 2, 3, 4] rfl ?_
        exact hJ2 _ _ (wpO_s h)
      · have h := wpO_f c23 h
        refine g_aload_n (i := 0) (x := 0) hC (dX11_tellsApart_26) rfl rfl ?_
        refine g_getR (r := 5) hC flX11_26 (dX11_tellsApart_27) rfl rfl rfl ?_
        refine g_iload_n (i := 3) (x := x3) hC (dX11_tellsApart_30) rfl rfl ?_
        have h := wpO_b h
        refine g_callVi ([.int x3]) hC wvX11_351 (dX11_tellsApart_31) rfl rfl (by omega) (Nat.le_of_ble_eq_true rfl) (cX7_allDifferIn_ok (by omega) x3 M h) (fun r3 N q => ?_)
        obtain ⟨rfl, h⟩ := q
        refine g_if_eq (tgt := 42) hC (dX11_tellsApart_34) (by decide) (fun c34 => ?_) (fun c34 => ?_)
        · have h := wpO_t c34 h
          refine g_sub (lv' := [(0, .ref 0), (1, .int x1), (2, .int x2), (3, .int x3)]) [1, 2, 3, 4] rfl ?_
          exact hJ2 _ _ (wpO_s h)
        · have h := wpO_f c34 h
          refine g_iload_n (i := 3) (x := x3) hC (dX11_tellsApart_37) rfl rfl ?_
          refine g_istore_n (i := 1) (lv2 := [(1, .int x3), (4, .int x4_18), (0, .ref 0), (2, .int x2), (3, .int x3)]) hC (dX11_tellsApart_38) rfl (by decide) rfl ?_
          refine g_iload (i := 4) (x := x4_18) hC (dX11_tellsApart_39) rfl ?_
          refine g_istore_n (i := 2) (lv2 := [(2, .int x4_18), (1, .int x3), (4, .int x4_18), (0, .ref 0), (3, .int x3)]) hC (dX11_tellsApart_41) rfl (by decide) rfl ?_
          refine g_sub (lv' := [(0, .ref 0), (1, .int x3), (2, .int x4_18), (3, .int x3)]) [3, 1, 0, 4] rfl ?_
          exact hJ2 _ _ (wpO_s h)
set_option maxHeartbeats 4000000 in
theorem cX11_tellsApart_ok {E : zE} {d : Nat} (hd : 1 ≤ d)  (M : zM) {K : (Int32 × zM) → Prop} (h : wpO (fX11_tellsApart  M) K) : CMi E d yX11_tellsApart cX11_tellsApart 5 (some .int) [.ref 0] M (fun r N => K (r, N)) := by
  refine CMi.of (by decide) (Nat.le_of_ble_eq_true rfl) (fun Γ hC hr => ?_)
  have hC : Cx E Γ RX11 cX11_tellsApart 5 d := hC
  show G E Γ 5 0 [(0, .ref 0)] [] M
  unfold fX11_tellsApart at h
  refine g_iconst (v := (-1)) hC (dX11_tellsApart_0) kc_m1 ?_
  refine g_istore_n (i := 1) (lv2 := [(1, .int (-1)), (0, .ref 0)]) hC (dX11_tellsApart_1) rfl (by decide) rfl ?_
  refine g_bipush (v := 9) hC (dX11_tellsApart_2) kb_9 ?_
  refine g_istore_n (i := 2) (lv2 := [(2, .int 9), (1, .int (-1)), (0, .ref 0)]) hC (dX11_tellsApart_4) rfl (by decide) rfl ?_
  refine g_iconst (v := 0) hC (dX11_tellsApart_5) kc_0 ?_
  refine g_istore_n (i := 3) (lv2 := [(3, .int 0), (2, .int 9), (1, .int (-1)), (0, .ref 0)]) hC (dX11_tellsApart_6) rfl (by decide) rfl ?_
  refine g_sub (lv' := [(0, .ref 0), (1, .int (-1)), (2, .int 9), (3, .int 0)]) [3, 2, 1, 0] rfl ?_
  refine wpO_bJ h (fun KL7 hKL7 h => ?_)
  refine lX11_tellsApart_7 (K1 := KL7) hC (by omega) M (fun x1_48 x2_48 h => ?_) _ _ _ _ h
  have h := hKL7 _ h
  have h := wpO_p h
  refine g_iload_n (i := 1) (x := x1_48) hC (dX11_tellsApart_48) rfl rfl ?_
  refine g_if_ge (tgt := 55) hC (dX11_tellsApart_49) (by decide) (fun c49 => ?_) (fun c49 => ?_)
  · have h := wpO_t c49 h
    refine g_aload_n (i := 0) (x := 0) hC (dX11_tellsApart_55) rfl rfl ?_
    refine g_getR (r := 3) hC flX11_19 (dX11_tellsApart_56) rfl rfl rfl ?_
    refine g_callVv ([]) hC wvX11_230 (dX11_tellsApart_59) rfl rfl (by omega) (Nat.le_of_ble_eq_true rfl) (cX3_begin_ok (by omega) M (K := fun r => r = fX3_begin M) rfl) (fun N q => ?_)
    subst q
    refine g_nmM (fun M59 e_M59 => ?_)
    have h := wpO_n e_M59 h
    refine g_aload_n (i := 0) (x := 0) hC (dX11_tellsApart_62) rfl rfl ?_
    refine g_getR (r := 3) hC flX11_19 (dX11_tellsApart_63) rfl rfl rfl ?_
    refine g_iload_n (i := 1) (x := x1_48) hC (dX11_tellsApart_66) rfl rfl ?_
    refine g_i2l hC (dX11_tellsApart_67) ?_
    have h := wpO_b h
    refine g_callVv ([.long x1_48.toInt64]) hC wvX11_233 (dX11_tellsApart_68) rfl rfl (by omega) (Nat.le_of_ble_eq_true rfl) (cX3_tell_ok (by omega) x1_48.toInt64 M59 h) (fun M68 h => ?_)
    refine g_iload_n (i := 2) (x := x2_48) hC (dX11_tellsApart_71) rfl rfl ?_
    refine g_ireturn hC hr (dX11_tellsApart_72) ?_
    exact wpO_s h
  · have h := wpO_f c49 h
    refine g_bipush (v := (-2)) hC (dX11_tellsApart_52) kb_m2 ?_
    refine g_ireturn hC hr (dX11_tellsApart_54) ?_
    exact wpO_s h
/-! LostByState.alike()I -/
theorem dX11_alike_0 : decode cX11_alike 0 = .ok (.bipush 9, 2) := by decide +kernel
theorem dX11_alike_2 : decode cX11_alike 2 = .ok (.istore_n 1, 1) := by decide +kernel
theorem dX11_alike_3 : decode cX11_alike 3 = .ok (.iconst 0, 1) := by decide +kernel
theorem dX11_alike_4 : decode cX11_alike 4 = .ok (.istore_n 2, 1) := by decide +kernel
theorem dX11_alike_5 : decode cX11_alike 5 = .ok (.iconst 0, 1) := by decide +kernel
theorem dX11_alike_6 : decode cX11_alike 6 = .ok (.istore_n 3, 1) := by decide +kernel
theorem dX11_alike_7 : decode cX11_alike 7 = .ok (.iconst 0, 1) := by decide +kernel
theorem dX11_alike_8 : decode cX11_alike 8 = .ok (.istore 4, 2) := by decide +kernel
theorem dX11_alike_10 : decode cX11_alike 10 = .ok (.iload 4, 2) := by decide +kernel
theorem dX11_alike_12 : decode cX11_alike 12 = .ok (.aload_n 0, 1) := by decide +kernel
theorem dX11_alike_13 : decode cX11_alike 13 = .ok (.getfield 26, 3) := by decide +kernel
theorem dX11_alike_16 : decode cX11_alike 16 = .ok (.getfield 135, 3) := by decide +kernel
theorem dX11_alike_19 : decode cX11_alike 19 = .ok (.if_icmp .ge 74, 3) := by decide +kernel
theorem dX11_alike_22 : decode cX11_alike 22 = .ok (.iload 4, 2) := by decide +kernel
theorem dX11_alike_24 : decode cX11_alike 24 = .ok (.iconst 1, 1) := by decide +kernel
theorem dX11_alike_25 : decode cX11_alike 25 = .ok (.iadd, 1) := by decide +kernel
theorem dX11_alike_26 : decode cX11_alike 26 = .ok (.istore 5, 2) := by decide +kernel
theorem dX11_alike_28 : decode cX11_alike 28 = .ok (.iload 5, 2) := by decide +kernel
theorem dX11_alike_30 : decode cX11_alike 30 = .ok (.aload_n 0, 1) := by decide +kernel
theorem dX11_alike_31 : decode cX11_alike 31 = .ok (.getfield 26, 3) := by decide +kernel
theorem dX11_alike_34 : decode cX11_alike 34 = .ok (.getfield 135, 3) := by decide +kernel
theorem dX11_alike_37 : decode cX11_alike 37 = .ok (.if_icmp .ge 50, 3) := by decide +kernel
theorem dX11_alike_40 : decode cX11_alike 40 = .ok (.aload_n 0, 1) := by decide +kernel
theorem dX11_alike_41 : decode cX11_alike 41 = .ok (.getfield 26, 3) := by decide +kernel
theorem dX11_alike_44 : decode cX11_alike 44 = .ok (.getfield 176, 3) := by decide +kernel
theorem dX11_alike_47 : decode cX11_alike 47 = .ok (.iload 4, 2) := by decide +kernel
theorem dX11_alike_49 : decode cX11_alike 49 = .ok (.iaload, 1) := by decide +kernel
theorem dX11_alike_50 : decode cX11_alike 50 = .ok (.aload_n 0, 1) := by decide +kernel
theorem dX11_alike_51 : decode cX11_alike 51 = .ok (.getfield 26, 3) := by decide +kernel
theorem dX11_alike_54 : decode cX11_alike 54 = .ok (.getfield 176, 3) := by decide +kernel
theorem dX11_alike_57 : decode cX11_alike 57 = .ok (.iload 5, 2) := by decide +kernel
theorem dX11_alike_59 : decode cX11_alike 59 = .ok (.iaload, 1) := by decide +kernel
theorem dX11_alike_60 : decode cX11_alike 60 = .ok (.ixor, 1) := by decide +kernel
theorem dX11_alike_61 : decode cX11_alike 61 = .ok (.invokestatic 240, 3) := by decide +kernel
theorem dX11_alike_64 : decode cX11_alike 64 = .ok (.istore 6, 2) := by decide +kernel
theorem dX11_alike_66 : decode cX11_alike 66 = .ok (.iload 6, 2) := by decide +kernel
theorem dX11_alike_68 : decode cX11_alike 68 = .ok (.iload_n 1, 1) := by decide +kernel
theorem dX11_alike_69 : decode cX11_alike 69 = .ok (.if_icmp .ge 12, 3) := by decide +kernel
theorem dX11_alike_72 : decode cX11_alike 72 = .ok (.iload 6, 2) := by decide +kernel
theorem dX11_alike_74 : decode cX11_alike 74 = .ok (.istore_n 1, 1) := by decide +kernel
theorem dX11_alike_75 : decode cX11_alike 75 = .ok (.iload 4, 2) := by decide +kernel
theorem dX11_alike_77 : decode cX11_alike 77 = .ok (.istore_n 2, 1) := by decide +kernel
theorem dX11_alike_78 : decode cX11_alike 78 = .ok (.iload 5, 2) := by decide +kernel
theorem dX11_alike_80 : decode cX11_alike 80 = .ok (.istore_n 3, 1) := by decide +kernel
theorem dX11_alike_81 : decode cX11_alike 81 = .ok (.iinc 5 1, 3) := by decide +kernel
theorem dX11_alike_84 : decode cX11_alike 84 = .ok (.goto (-56), 3) := by decide +kernel
theorem dX11_alike_87 : decode cX11_alike 87 = .ok (.iinc 4 1, 3) := by decide +kernel
theorem dX11_alike_90 : decode cX11_alike 90 = .ok (.goto (-80), 3) := by decide +kernel
theorem dX11_alike_93 : decode cX11_alike 93 = .ok (.iload_n 1, 1) := by decide +kernel
theorem dX11_alike_94 : decode cX11_alike 94 = .ok (.bipush 8, 2) := by decide +kernel
theorem dX11_alike_96 : decode cX11_alike 96 = .ok (.if_icmp .le 6, 3) := by decide +kernel
theorem dX11_alike_99 : decode cX11_alike 99 = .ok (.bipush (-2), 2) := by decide +kernel
theorem dX11_alike_101 : decode cX11_alike 101 = .ok (.ireturn, 1) := by decide +kernel
theorem dX11_alike_102 : decode cX11_alike 102 = .ok (.aload_n 0, 1) := by decide +kernel
theorem dX11_alike_103 : decode cX11_alike 103 = .ok (.getfield 19, 3) := by decide +kernel
theorem dX11_alike_106 : decode cX11_alike 106 = .ok (.invokevirtual 230, 3) := by decide +kernel
theorem dX11_alike_109 : decode cX11_alike 109 = .ok (.aload_n 0, 1) := by decide +kernel
theorem dX11_alike_110 : decode cX11_alike 110 = .ok (.getfield 19, 3) := by decide +kernel
theorem dX11_alike_113 : decode cX11_alike 113 = .ok (.iload_n 2, 1) := by decide +kernel
theorem dX11_alike_114 : decode cX11_alike 114 = .ok (.i2l, 1) := by decide +kernel
theorem dX11_alike_115 : decode cX11_alike 115 = .ok (.invokevirtual 233, 3) := by decide +kernel
theorem dX11_alike_118 : decode cX11_alike 118 = .ok (.aload_n 0, 1) := by decide +kernel
theorem dX11_alike_119 : decode cX11_alike 119 = .ok (.getfield 19, 3) := by decide +kernel
theorem dX11_alike_122 : decode cX11_alike 122 = .ok (.iload_n 3, 1) := by decide +kernel
theorem dX11_alike_123 : decode cX11_alike 123 = .ok (.i2l, 1) := by decide +kernel
theorem dX11_alike_124 : decode cX11_alike 124 = .ok (.invokevirtual 233, 3) := by decide +kernel
theorem dX11_alike_127 : decode cX11_alike 127 = .ok (.aload_n 0, 1) := by decide +kernel
theorem dX11_alike_128 : decode cX11_alike 128 = .ok (.getfield 19, 3) := by decide +kernel
theorem dX11_alike_131 : decode cX11_alike 131 = .ok (.aload_n 0, 1) := by decide +kernel
theorem dX11_alike_132 : decode cX11_alike 132 = .ok (.getfield 26, 3) := by decide +kernel
theorem dX11_alike_135 : decode cX11_alike 135 = .ok (.getfield 176, 3) := by decide +kernel
theorem dX11_alike_138 : decode cX11_alike 138 = .ok (.iload_n 2, 1) := by decide +kernel
theorem dX11_alike_139 : decode cX11_alike 139 = .ok (.iaload, 1) := by decide +kernel
theorem dX11_alike_140 : decode cX11_alike 140 = .ok (.aload_n 0, 1) := by decide +kernel
theorem dX11_alike_141 : decode cX11_alike 141 = .ok (.getfield 26, 3) := by decide +kernel
theorem dX11_alike_144 : decode cX11_alike 144 = .ok (.getfield 176, 3) := by decide +kernel
theorem dX11_alike_147 : decode cX11_alike 147 = .ok (.iload_n 3, 1) := by decide +kernel
theorem dX11_alike_148 : decode cX11_alike 148 = .ok (.iaload, 1) := by decide +kernel
theorem dX11_alike_149 : decode cX11_alike 149 = .ok (.iand, 1) := by decide +kernel
theorem dX11_alike_150 : decode cX11_alike 150 = .ok (.i2l, 1) := by decide +kernel
theorem dX11_alike_151 : decode cX11_alike 151 = .ok (.invokevirtual 233, 3) := by decide +kernel
theorem dX11_alike_154 : decode cX11_alike 154 = .ok (.iload_n 1, 1) := by decide +kernel
theorem dX11_alike_155 : decode cX11_alike 155 = .ok (.ireturn, 1) := by decide +kernel
def fX11_alike_L28 (x4 : Int32) (M : zM) : Nat → Int32 → Int32 → Int32 → Int32 → Option (Int32 × Int32 × Int32)
  | 0, _, _, _, _ => none
  | n + 1, x1, x2, x3, x5 => if (M.1 5 3) ≤ x5 then (
    some (x1, x2, x3))
    else (
    if zin x4 8 then (
    if zin x5 8 then (
    zlet (fJ6_bitCount_0f7a4 ((M.1 6 x4.toNatClampNeg) ^^^ (M.1 6 x5.toNatClampNeg))) fun (x6_64 : Int32) =>
    zlet (if x1 ≤ x6_64 then (
    x1)
    else (
    x6_64)) fun (x1_81 : Int32) =>
    zlet (if x1 ≤ x6_64 then (
    x2)
    else (
    x4)) fun (x2_81 : Int32) =>
    zlet (if x1 ≤ x6_64 then (
    x3)
    else (
    x5)) fun (x3_81 : Int32) =>
    fX11_alike_L28 x4 M n x1_81 x2_81 x3_81 (x5 + 1)) else none) else none)
def fX11_alike_L10 (M : zM) : Nat → Int32 → Int32 → Int32 → Int32 → Option (Int32 × Int32 × Int32)
  | 0, _, _, _, _ => none
  | n + 1, x1, x2, x3, x4 => if (M.1 5 3) ≤ x4 then (
    some (x1, x2, x3))
    else (
    zlet (x4 + 1) fun (x5_26 : Int32) =>
    (fX11_alike_L28 x4 M 4000 x1 x2 x3 x5_26).bind fun (q : Int32 × Int32 × Int32) => zp q fun x1_87 q => zp q fun x2_87 x3_87 =>
    fX11_alike_L10 M n x1_87 x2_87 x3_87 (x4 + 1))
def fX11_alike  (M : zM) : Option (Int32 × zM) := (fX11_alike_L10 M 4000 9 0 0 0).bind fun (q : Int32 × Int32 × Int32) => zp q fun x1_93 q => zp q fun x2_93 x3_93 =>
  if x1_93 ≤ 8 then (
  zlet (fX3_begin M) fun (M106 : zM) =>
  (fX3_tell x2_93.toInt64 M106).bind fun (M115 : zM) =>
  (fX3_tell x3_93.toInt64 M115).bind fun (M124 : zM) =>
  if zin x2_93 8 then (
  if zin x3_93 8 then (
  (fX3_tell (((M124.1 6 x2_93.toNatClampNeg) &&& (M124.1 6 x3_93.toNatClampNeg)).toInt64) M124).bind fun (M151 : zM) =>
  some (x1_93, M151)) else none) else none)
  else (
  some ((-2), M))
set_option maxHeartbeats 4000000 in
theorem lX11_alike_28 {E : zE} {Γ : zT} {d : Nat} {K1 : (Int32 × Int32 × Int32) → Prop} (hC : Cx E Γ RX11 cX11_alike 7 d) (hd : 1 ≤ d) (x4 : Int32) (M : zM) (hx : ∀ (x1_87 : Int32) (x2_87 : Int32) (x3_87 : Int32), K1 (x1_87, x2_87, x3_87) → G E Γ 7 87 [(0, .ref 0), (1, .int x1_87), (2, .int x2_87), (3, .int x3_87), (4, .int x4)] [] M) :
    ∀ (n : Nat) (x1 : Int32) (x2 : Int32) (x3 : Int32) (x5 : Int32), wpO (fX11_alike_L28 x4 M n x1 x2 x3 x5) K1 → G E Γ 7 28 [(0, .ref 0), (1, .int x1), (2, .int x2), (3, .int x3), (4, .int x4), (5, .int x5)] [] M := by
  intro n
  induction n with
  | zero =>
    intro x1 x2 x3 x5 h
    exact (wpO_0 h).elim
  | succ n ih =>
    intro x1 x2 x3 x5 h
    rw [fX11_alike_L28.eq_2] at h
    refine g_iload (i := 5) (x := x5) hC (dX11_alike_28) rfl ?_
    refine g_aload_n (i := 0) (x := 0) hC (dX11_alike_30) rfl rfl ?_
    refine g_getR (r := 5) hC flX11_26 (dX11_alike_31) rfl rfl rfl ?_
    refine g_getI hC flX11_135 (dX11_alike_34) rfl rfl ?_
    refine g_icmp_ge (tgt := 87) hC (dX11_alike_37) (by decide) (fun c37 => ?_) (fun c37 => ?_)
    · have h := wpO_t c37 h
      refine g_sub (lv' := [(0, .ref 0), (1, .int x1), (2, .int x2), (3, .int x3), (4, .int x4)]) [0, 1, 2, 3, 4] rfl ?_
      exact hx _ _ _ (wpO_s h)
    · have h := wpO_f c37 h
      refine g_aload_n (i := 0) (x := 0) hC (dX11_alike_40) rfl rfl ?_
      refine g_getR (r := 5) hC flX11_26 (dX11_alike_41) rfl rfl rfl ?_
      refine g_getR (r := 6) hC flX11_176 (dX11_alike_44) rfl rfl rfl ?_
      refine g_iload (i := 4) (x := x4) hC (dX11_alike_47) rfl ?_
      obtain ⟨q1, h⟩ := wpO_g h
      refine g_iaload (n := 8) hC (dX11_alike_49) rfl q1 ?_
      refine g_aload_n (i := 0) (x := 0) hC (dX11_alike_50) rfl rfl ?_
      refine g_getR (r := 5) hC flX11_26 (dX11_alike_51) rfl rfl rfl ?_
      refine g_getR (r := 6) hC flX11_176 (dX11_alike_54) rfl rfl rfl ?_
      refine g_iload (i := 5) (x := x5) hC (dX11_alike_57) rfl ?_
      obtain ⟨q2, h⟩ := wpO_g h
      refine g_iaload (n := 8) hC (dX11_alike_59) rfl q2 ?_
      refine g_ixor hC (dX11_alike_60) ?_
      refine g_callSi ([.int ((M.1 6 x4.toNatClampNeg) ^^^ (M.1 6 x5.toNatClampNeg))]) hC wsX11_240 (dX11_alike_61) rfl (by omega) (Nat.le_of_ble_eq_true rfl) (cJ6_bitCount_0f7a4_ok (by omega) ((M.1 6 x4.toNatClampNeg) ^^^ (M.1 6 x5.toNatClampNeg)) M (K := fun r => r = fJ6_bitCount_0f7a4 ((M.1 6 x4.toNatClampNeg) ^^^ (M.1 6 x5.toNatClampNeg))) rfl) (fun r N q => ?_)
      obtain ⟨rfl, rfl⟩ := q
      refine g_nmi (fun x6_64 e_x6_64 => ?_)
      have h := wpO_n e_x6_64 h
      refine g_istore (i := 6) (lv2 := [(6, .int x6_64), (0, .ref 0), (1, .int x1), (2, .int x2), (3, .int x3), (4, .int x4), (5, .int x5)]) hC (dX11_alike_64) (by decide) rfl ?_
      refine g_iload (i := 6) (x := x6_64) hC (dX11_alike_66) rfl ?_
      refine g_iload_n (i := 1) (x := x1) hC (dX11_alike_68) rfl rfl ?_
      obtain ⟨x1_81, e_x1_81, h⟩ := wpO_l h
      obtain ⟨x2_81, e_x2_81, h⟩ := wpO_l h
      obtain ⟨x3_81, e_x3_81, h⟩ := wpO_l h
      have hJ4 : G E Γ 7 81 [(0, .ref 0), (1, .int x1_81), (2, .int x2_81), (3, .int x3_81), (4, .int x4), (5, .int x5)] [] M := by
        refine g_iinc (x := x5) (v := (x5 + 1)) (lv2 := [(5, .int (x5 + 1)), (0, .ref 0), (1, .int x1_81), (2, .int x2_81), (3, .int x3_81), (4, .int x4)]) hC (dX11_alike_81) rfl rfl (by decide) rfl ?_
        refine g_goto (tgt := 28) hC (dX11_alike_84) (by decide) ?_
        refine g_sub (lv' := [(0, .ref 0), (1, .int x1_81), (2, .int x2_81), (3, .int x3_81), (4, .int x4), (5, .int (x5 + 1))]) [1, 2, 3, 4, 5, 0] rfl ?_
        exact ih _ _ _ _ h
      refine g_icmp_ge (tgt := 81) hC (dX11_alike_69) (by decide) (fun c69 => ?_) (fun c69 => ?_)
      · rw [if_pos c69] at e_x1_81 e_x2_81 e_x3_81
        refine g_sub (lv' := [(0, .ref 0), (1, .int x1), (2, .int x2), (3, .int x3), (4, .int x4), (5, .int x5)]) [1, 2, 3, 4, 5, 6] rfl ?_
        subst e_x1_81
        subst e_x2_81
        subst e_x3_81
        exact hJ4
      · rw [if_neg c69] at e_x1_81 e_x2_81 e_x3_81
        refine g_iload (i := 6) (x := x6_64) hC (dX11_alike_72) rfl ?_
        refine g_istore_n (i := 1) (lv2 := [(1, .int x6_64), (6, .int x6_64), (0, .ref 0), (2, .int x2), (3, .int x3), (4, .int x4), (5, .int x5)]) hC (dX11_alike_74) rfl (by decide) rfl ?_
        refine g_iload (i := 4) (x := x4) hC (dX11_alike_75) rfl ?_
        refine g_istore_n (i := 2) (lv2 := [(2, .int x4), (1, .int x6_64), (6, .int x6_64), (0, .ref 0), (3, .int x3), (4, .int x4), (5, .int x5)]) hC (dX11_alike_77) rfl (by decide) rfl ?_
        refine g_iload (i := 5) (x := x5) hC (dX11_alike_78) rfl ?_
        refine g_istore_n (i := 3) (lv2 := [(3, .int x5), (2, .int x4), (1, .int x6_64), (6, .int x6_64), (0, .ref 0), (4, .int x4), (5, .int x5)]) hC (dX11_alike_80) rfl (by decide) rfl ?_
        refine g_sub (lv' := [(0, .ref 0), (1, .int x6_64), (2, .int x4), (3, .int x5), (4, .int x4), (5, .int x5)]) [4, 2, 1, 0, 5, 6] rfl ?_
        subst e_x1_81
        subst e_x2_81
        subst e_x3_81
        exact hJ4
set_option maxHeartbeats 4000000 in
theorem lX11_alike_10 {E : zE} {Γ : zT} {d : Nat} {K1 : (Int32 × Int32 × Int32) → Prop} (hC : Cx E Γ RX11 cX11_alike 7 d) (hd : 1 ≤ d) (M : zM) (hx : ∀ (x1_93 : Int32) (x2_93 : Int32) (x3_93 : Int32), K1 (x1_93, x2_93, x3_93) → G E Γ 7 93 [(0, .ref 0), (1, .int x1_93), (2, .int x2_93), (3, .int x3_93)] [] M) :
    ∀ (n : Nat) (x1 : Int32) (x2 : Int32) (x3 : Int32) (x4 : Int32), wpO (fX11_alike_L10 M n x1 x2 x3 x4) K1 → G E Γ 7 10 [(0, .ref 0), (1, .int x1), (2, .int x2), (3, .int x3), (4, .int x4)] [] M := by
  intro n
  induction n with
  | zero =>
    intro x1 x2 x3 x4 h
    exact (wpO_0 h).elim
  | succ n ih =>
    intro x1 x2 x3 x4 h
    rw [fX11_alike_L10.eq_2] at h
    refine g_iload (i := 4) (x := x4) hC (dX11_alike_10) rfl ?_
    refine g_aload_n (i := 0) (x := 0) hC (dX11_alike_12) rfl rfl ?_
    refine g_getR (r := 5) hC flX11_26 (dX11_alike_13) rfl rfl rfl ?_
    refine g_getI hC flX11_135 (dX11_alike_16) rfl rfl ?_
    refine g_icmp_ge (tgt := 93) hC (dX11_alike_19) (by decide) (fun c19 => ?_) (fun c19 => ?_)
    · have h := wpO_t c19 h
      refine g_sub (lv' := [(0, .ref 0), (1, .int x1), (2, .int x2), (3, .int x3)]) [0, 1, 2, 3] rfl ?_
      exact hx _ _ _ (wpO_s h)
    · have h := wpO_f c19 h
      refine g_iload (i := 4) (x := x4) hC (dX11_alike_22) rfl ?_
      refine g_iconst (v := 1) hC (dX11_alike_24) kc_1 ?_
      refine g_iadd hC (dX11_alike_25) ?_
      refine g_nmi (fun x5_26 e_x5_26 => ?_)
      have h := wpO_n e_x5_26 h
      refine g_istore (i := 5) (lv2 := [(5, .int x5_26), (0, .ref 0), (1, .int x1), (2, .int x2), (3, .int x3), (4, .int x4)]) hC (dX11_alike_26) (by decide) rfl ?_
      refine g_sub (lv' := [(0, .ref 0), (1, .int x1), (2, .int x2), (3, .int x3), (4, .int x4), (5, .int x5_26)]) [1, 2, 3, 4, 5, 0] rfl ?_
      refine wpO_bJ h (fun KL28 hKL28 h => ?_)
      refine lX11_alike_28 (K1 := KL28) hC (by omega) x4 M (fun x1_87 x2_87 x3_87 h => ?_) _ _ _ _ _ h
      have h := hKL28 _ h
      have h := wpO_p h
      have h := wpO_p h
      refine g_iinc (x := x4) (v := (x4 + 1)) (lv2 := [(4, .int (x4 + 1)), (0, .ref 0), (1, .int x1_87), (2, .int x2_87), (3, .int x3_87)]) hC (dX11_alike_87) rfl rfl (by decide) rfl ?_
      refine g_goto (tgt := 10) hC (dX11_alike_90) (by decide) ?_
      refine g_sub (lv' := [(0, .ref 0), (1, .int x1_87), (2, .int x2_87), (3, .int x3_87), (4, .int (x4 + 1))]) [1, 2, 3, 4, 0] rfl ?_
      exact ih _ _ _ _ h
set_option maxHeartbeats 4000000 in
theorem cX11_alike_ok {E : zE} {d : Nat} (hd : 1 ≤ d)  (M : zM) {K : (Int32 × zM) → Prop} (h : wpO (fX11_alike  M) K) : CMi E d yX11_alike cX11_alike 7 (some .int) [.ref 0] M (fun r N => K (r, N)) := by
  refine CMi.of (by decide) (Nat.le_of_ble_eq_true rfl) (fun Γ hC hr => ?_)
  have hC : Cx E Γ RX11 cX11_alike 7 d := hC
  show G E Γ 7 0 [(0, .ref 0)] [] M
  unfold fX11_alike at h
  refine g_bipush (v := 9) hC (dX11_alike_0) kb_9 ?_
  refine g_istore_n (i := 1) (lv2 := [(1, .int 9), (0, .ref 0)]) hC (dX11_alike_2) rfl (by decide) rfl ?_
  refine g_iconst (v := 0) hC (dX11_alike_3) kc_0 ?_
  refine g_istore_n (i := 2) (lv2 := [(2, .int 0), (1, .int 9), (0, .ref 0)]) hC (dX11_alike_4) rfl (by decide) rfl ?_
  refine g_iconst (v := 0) hC (dX11_alike_5) kc_0 ?_
  refine g_istore_n (i := 3) (lv2 := [(3, .int 0), (2, .int 0), (1, .int 9), (0, .ref 0)]) hC (dX11_alike_6) rfl (by decide) rfl ?_
  refine g_iconst (v := 0) hC (dX11_alike_7) kc_0 ?_
  refine g_istore (i := 4) (lv2 := [(4, .int 0), (3, .int 0), (2, .int 0), (1, .int 9), (0, .ref 0)]) hC (dX11_alike_8) (by decide) rfl ?_
  refine g_sub (lv' := [(0, .ref 0), (1, .int 9), (2, .int 0), (3, .int 0), (4, .int 0)]) [4, 3, 2, 1, 0] rfl ?_
  refine wpO_bJ h (fun KL10 hKL10 h => ?_)
  refine lX11_alike_10 (K1 := KL10) hC (by omega) M (fun x1_93 x2_93 x3_93 h => ?_) _ _ _ _ _ h
  have h := hKL10 _ h
  have h := wpO_p h
  have h := wpO_p h
  refine g_iload_n (i := 1) (x := x1_93) hC (dX11_alike_93) rfl rfl ?_
  refine g_bipush (v := 8) hC (dX11_alike_94) kb_8 ?_
  refine g_icmp_le (tgt := 102) hC (dX11_alike_96) (by decide) (fun c96 => ?_) (fun c96 => ?_)
  · have h := wpO_t c96 h
    refine g_aload_n (i := 0) (x := 0) hC (dX11_alike_102) rfl rfl ?_
    refine g_getR (r := 3) hC flX11_19 (dX11_alike_103) rfl rfl rfl ?_
    refine g_callVv ([]) hC wvX11_230 (dX11_alike_106) rfl rfl (by omega) (Nat.le_of_ble_eq_true rfl) (cX3_begin_ok (by omega) M (K := fun r => r = fX3_begin M) rfl) (fun N q => ?_)
    subst q
    refine g_nmM (fun M106 e_M106 => ?_)
    have h := wpO_n e_M106 h
    refine g_aload_n (i := 0) (x := 0) hC (dX11_alike_109) rfl rfl ?_
    refine g_getR (r := 3) hC flX11_19 (dX11_alike_110) rfl rfl rfl ?_
    refine g_iload_n (i := 2) (x := x2_93) hC (dX11_alike_113) rfl rfl ?_
    refine g_i2l hC (dX11_alike_114) ?_
    have h := wpO_b h
    refine g_callVv ([.long x2_93.toInt64]) hC wvX11_233 (dX11_alike_115) rfl rfl (by omega) (Nat.le_of_ble_eq_true rfl) (cX3_tell_ok (by omega) x2_93.toInt64 M106 h) (fun M115 h => ?_)
    refine g_aload_n (i := 0) (x := 0) hC (dX11_alike_118) rfl rfl ?_
    refine g_getR (r := 3) hC flX11_19 (dX11_alike_119) rfl rfl rfl ?_
    refine g_iload_n (i := 3) (x := x3_93) hC (dX11_alike_122) rfl rfl ?_
    refine g_i2l hC (dX11_alike_123) ?_
    have h := wpO_b h
    refine g_callVv ([.long x3_93.toInt64]) hC wvX11_233 (dX11_alike_124) rfl rfl (by omega) (Nat.le_of_ble_eq_true rfl) (cX3_tell_ok (by omega) x3_93.toInt64 M115 h) (fun M124 h => ?_)
    refine g_aload_n (i := 0) (x := 0) hC (dX11_alike_127) rfl rfl ?_
    refine g_getR (r := 3) hC flX11_19 (dX11_alike_128) rfl rfl rfl ?_
    refine g_aload_n (i := 0) (x := 0) hC (dX11_alike_131) rfl rfl ?_
    refine g_getR (r := 5) hC flX11_26 (dX11_alike_132) rfl rfl rfl ?_
    refine g_getR (r := 6) hC flX11_176 (dX11_alike_135) rfl rfl rfl ?_
    refine g_iload_n (i := 2) (x := x2_93) hC (dX11_alike_138) rfl rfl ?_
    obtain ⟨q8, h⟩ := wpO_g h
    refine g_iaload (n := 8) hC (dX11_alike_139) rfl q8 ?_
    refine g_aload_n (i := 0) (x := 0) hC (dX11_alike_140) rfl rfl ?_
    refine g_getR (r := 5) hC flX11_26 (dX11_alike_141) rfl rfl rfl ?_
    refine g_getR (r := 6) hC flX11_176 (dX11_alike_144) rfl rfl rfl ?_
    refine g_iload_n (i := 3) (x := x3_93) hC (dX11_alike_147) rfl rfl ?_
    obtain ⟨q9, h⟩ := wpO_g h
    refine g_iaload (n := 8) hC (dX11_alike_148) rfl q9 ?_
    refine g_iand hC (dX11_alike_149) ?_
    refine g_i2l hC (dX11_alike_150) ?_
    have h := wpO_b h
    refine g_callVv ([.long (((M124.1 6 x2_93.toNatClampNeg) &&& (M124.1 6 x3_93.toNatClampNeg)).toInt64)]) hC wvX11_233 (dX11_alike_151) rfl rfl (by omega) (Nat.le_of_ble_eq_true rfl) (cX3_tell_ok (by omega) (((M124.1 6 x2_93.toNatClampNeg) &&& (M124.1 6 x3_93.toNatClampNeg)).toInt64) M124 h) (fun M151 h => ?_)
    refine g_iload_n (i := 1) (x := x1_93) hC (dX11_alike_154) rfl rfl ?_
    refine g_ireturn hC hr (dX11_alike_155) ?_
    exact wpO_s h
  · have h := wpO_f c96 h
    refine g_bipush (v := (-2)) hC (dX11_alike_99) kb_m2 ?_
    refine g_ireturn hC hr (dX11_alike_101) ?_
    exact wpO_s h
/-! LostByState.sumOfDigits()J -/
theorem dX11_sumOfDigits_0 : decode cX11_sumOfDigits 0 = .ok (.lconst 0, 1) := by decide +kernel
theorem dX11_sumOfDigits_1 : decode cX11_sumOfDigits 1 = .ok (.lstore_n 1, 1) := by decide +kernel
theorem dX11_sumOfDigits_2 : decode cX11_sumOfDigits 2 = .ok (.iconst 0, 1) := by decide +kernel
theorem dX11_sumOfDigits_3 : decode cX11_sumOfDigits 3 = .ok (.istore_n 3, 1) := by decide +kernel
theorem dX11_sumOfDigits_4 : decode cX11_sumOfDigits 4 = .ok (.iload_n 3, 1) := by decide +kernel
theorem dX11_sumOfDigits_5 : decode cX11_sumOfDigits 5 = .ok (.aload_n 0, 1) := by decide +kernel
theorem dX11_sumOfDigits_6 : decode cX11_sumOfDigits 6 = .ok (.getfield 102, 3) := by decide +kernel
theorem dX11_sumOfDigits_9 : decode cX11_sumOfDigits 9 = .ok (.arraylength, 1) := by decide +kernel
theorem dX11_sumOfDigits_10 : decode cX11_sumOfDigits 10 = .ok (.if_icmp .ge 19, 3) := by decide +kernel
theorem dX11_sumOfDigits_13 : decode cX11_sumOfDigits 13 = .ok (.lload_n 1, 1) := by decide +kernel
theorem dX11_sumOfDigits_14 : decode cX11_sumOfDigits 14 = .ok (.aload_n 0, 1) := by decide +kernel
theorem dX11_sumOfDigits_15 : decode cX11_sumOfDigits 15 = .ok (.getfield 102, 3) := by decide +kernel
theorem dX11_sumOfDigits_18 : decode cX11_sumOfDigits 18 = .ok (.iload_n 3, 1) := by decide +kernel
theorem dX11_sumOfDigits_19 : decode cX11_sumOfDigits 19 = .ok (.iaload, 1) := by decide +kernel
theorem dX11_sumOfDigits_20 : decode cX11_sumOfDigits 20 = .ok (.i2l, 1) := by decide +kernel
theorem dX11_sumOfDigits_21 : decode cX11_sumOfDigits 21 = .ok (.ladd, 1) := by decide +kernel
theorem dX11_sumOfDigits_22 : decode cX11_sumOfDigits 22 = .ok (.lstore_n 1, 1) := by decide +kernel
theorem dX11_sumOfDigits_23 : decode cX11_sumOfDigits 23 = .ok (.iinc 3 1, 3) := by decide +kernel
theorem dX11_sumOfDigits_26 : decode cX11_sumOfDigits 26 = .ok (.goto (-22), 3) := by decide +kernel
theorem dX11_sumOfDigits_29 : decode cX11_sumOfDigits 29 = .ok (.lload_n 1, 1) := by decide +kernel
theorem dX11_sumOfDigits_30 : decode cX11_sumOfDigits 30 = .ok (.lreturn, 1) := by decide +kernel
def fX11_sumOfDigits_L4 (M : zM) : Nat → Int64 → Int32 → Option Int64
  | 0, _, _ => none
  | n + 1, x1, x3 => if 6 ≤ x3 then (
    some x1)
    else (
    if zin x3 6 then (
    zlet (x1 + ((M.1 35 x3.toNatClampNeg).toInt64)) fun (x1_22 : Int64) =>
    fX11_sumOfDigits_L4 M n x1_22 (x3 + 1)) else none)
def fX11_sumOfDigits  (M : zM) : Option Int64 := (fX11_sumOfDigits_L4 M 4000 0 0).bind fun (x1_29 : Int64) =>
  some x1_29
set_option maxHeartbeats 4000000 in
theorem lX11_sumOfDigits_4 {E : zE} {Γ : zT} {d : Nat} {K1 : Int64 → Prop} (hC : Cx E Γ RX11 cX11_sumOfDigits 4 d) (hd : 0 ≤ d) (M : zM) (hx : ∀ (x1_29 : Int64), K1 x1_29 → G E Γ 4 29 [(1, .long x1_29)] [] M) :
    ∀ (n : Nat) (x1 : Int64) (x3 : Int32), wpO (fX11_sumOfDigits_L4 M n x1 x3) K1 → G E Γ 4 4 [(0, .ref 0), (1, .long x1), (3, .int x3)] [] M := by
  intro n
  induction n with
  | zero =>
    intro x1 x3 h
    exact (wpO_0 h).elim
  | succ n ih =>
    intro x1 x3 h
    rw [fX11_sumOfDigits_L4.eq_2] at h
    refine g_iload_n (i := 3) (x := x3) hC (dX11_sumOfDigits_4) rfl rfl ?_
    refine g_aload_n (i := 0) (x := 0) hC (dX11_sumOfDigits_5) rfl rfl ?_
    refine g_getR (r := 35) hC flX11_102 (dX11_sumOfDigits_6) rfl rfl rfl ?_
    refine g_alen (ek := 0) (n := 6) (v := 6) hC (dX11_sumOfDigits_9) rfl (by decide) rfl ?_
    refine g_icmp_ge (tgt := 29) hC (dX11_sumOfDigits_10) (by decide) (fun c10 => ?_) (fun c10 => ?_)
    · have h := wpO_t c10 h
      refine g_sub (lv' := [(1, .long x1)]) [1] rfl ?_
      exact hx _ (wpO_s h)
    · have h := wpO_f c10 h
      refine g_lload_n (i := 1) (x := x1) hC (dX11_sumOfDigits_13) rfl rfl ?_
      refine g_aload_n (i := 0) (x := 0) hC (dX11_sumOfDigits_14) rfl rfl ?_
      refine g_getR (r := 35) hC flX11_102 (dX11_sumOfDigits_15) rfl rfl rfl ?_
      refine g_iload_n (i := 3) (x := x3) hC (dX11_sumOfDigits_18) rfl rfl ?_
      obtain ⟨q1, h⟩ := wpO_g h
      refine g_iaload (n := 6) hC (dX11_sumOfDigits_19) rfl q1 ?_
      refine g_i2l hC (dX11_sumOfDigits_20) ?_
      refine g_ladd hC (dX11_sumOfDigits_21) ?_
      refine g_nml (fun x1_22 e_x1_22 => ?_)
      have h := wpO_n e_x1_22 h
      refine g_lstore_n (i := 1) (lv2 := [(1, .long x1_22), (0, .ref 0), (3, .int x3)]) hC (dX11_sumOfDigits_22) rfl (by decide) rfl ?_
      refine g_iinc (x := x3) (v := (x3 + 1)) (lv2 := [(3, .int (x3 + 1)), (1, .long x1_22), (0, .ref 0)]) hC (dX11_sumOfDigits_23) rfl rfl (by decide) rfl ?_
      refine g_goto (tgt := 4) hC (dX11_sumOfDigits_26) (by decide) ?_
      refine g_sub (lv' := [(0, .ref 0), (1, .long x1_22), (3, .int (x3 + 1))]) [2, 1, 0] rfl ?_
      exact ih _ _ h
set_option maxHeartbeats 4000000 in
theorem cX11_sumOfDigits_ok {E : zE} {d : Nat} (hd : 0 ≤ d)  (M : zM) {K : Int64 → Prop} (h : wpO (fX11_sumOfDigits  M) K) : CMl E d yX11_sumOfDigits cX11_sumOfDigits 4 (some .long) [.ref 0] M (fun r N => M = N ∧ K r) := by
  refine CMl.of (by decide) (Nat.le_of_ble_eq_true rfl) (fun Γ hC hr => ?_)
  have hC : Cx E Γ RX11 cX11_sumOfDigits 4 d := hC
  show G E Γ 4 0 [(0, .ref 0)] [] M
  unfold fX11_sumOfDigits at h
  refine g_lconst (v := 0) hC (dX11_sumOfDigits_0) kl_0 ?_
  refine g_lstore_n (i := 1) (lv2 := [(1, .long 0), (0, .ref 0)]) hC (dX11_sumOfDigits_1) rfl (by decide) rfl ?_
  refine g_iconst (v := 0) hC (dX11_sumOfDigits_2) kc_0 ?_
  refine g_istore_n (i := 3) (lv2 := [(3, .int 0), (1, .long 0), (0, .ref 0)]) hC (dX11_sumOfDigits_3) rfl (by decide) rfl ?_
  refine g_sub (lv' := [(0, .ref 0), (1, .long 0), (3, .int 0)]) [2, 1, 0] rfl ?_
  refine wpO_bJ h (fun KL4 hKL4 h => ?_)
  refine lX11_sumOfDigits_4 (K1 := KL4) hC (by omega) M (fun x1_29 h => ?_) _ _ _ h
  have h := hKL4 _ h
  refine g_lload_n (i := 1) (x := x1_29) hC (dX11_sumOfDigits_29) rfl rfl ?_
  refine g_lreturn hC hr (dX11_sumOfDigits_30) ?_
  exact ⟨rfl, wpO_s h⟩
/-! LostByState.likeliestPlace()I -/
theorem dX11_likeliestPlace_0 : decode cX11_likeliestPlace 0 = .ok (.iconst 0, 1) := by decide +kernel
theorem dX11_likeliestPlace_1 : decode cX11_likeliestPlace 1 = .ok (.istore_n 1, 1) := by decide +kernel
theorem dX11_likeliestPlace_2 : decode cX11_likeliestPlace 2 = .ok (.iconst 1, 1) := by decide +kernel
theorem dX11_likeliestPlace_3 : decode cX11_likeliestPlace 3 = .ok (.istore_n 2, 1) := by decide +kernel
theorem dX11_likeliestPlace_4 : decode cX11_likeliestPlace 4 = .ok (.iload_n 2, 1) := by decide +kernel
theorem dX11_likeliestPlace_5 : decode cX11_likeliestPlace 5 = .ok (.aload_n 0, 1) := by decide +kernel
theorem dX11_likeliestPlace_6 : decode cX11_likeliestPlace 6 = .ok (.getfield 102, 3) := by decide +kernel
theorem dX11_likeliestPlace_9 : decode cX11_likeliestPlace 9 = .ok (.arraylength, 1) := by decide +kernel
theorem dX11_likeliestPlace_10 : decode cX11_likeliestPlace 10 = .ok (.if_icmp .ge 26, 3) := by decide +kernel
theorem dX11_likeliestPlace_13 : decode cX11_likeliestPlace 13 = .ok (.aload_n 0, 1) := by decide +kernel
theorem dX11_likeliestPlace_14 : decode cX11_likeliestPlace 14 = .ok (.getfield 102, 3) := by decide +kernel
theorem dX11_likeliestPlace_17 : decode cX11_likeliestPlace 17 = .ok (.iload_n 2, 1) := by decide +kernel
theorem dX11_likeliestPlace_18 : decode cX11_likeliestPlace 18 = .ok (.iaload, 1) := by decide +kernel
theorem dX11_likeliestPlace_19 : decode cX11_likeliestPlace 19 = .ok (.aload_n 0, 1) := by decide +kernel
theorem dX11_likeliestPlace_20 : decode cX11_likeliestPlace 20 = .ok (.getfield 102, 3) := by decide +kernel
theorem dX11_likeliestPlace_23 : decode cX11_likeliestPlace 23 = .ok (.iload_n 1, 1) := by decide +kernel
theorem dX11_likeliestPlace_24 : decode cX11_likeliestPlace 24 = .ok (.iaload, 1) := by decide +kernel
theorem dX11_likeliestPlace_25 : decode cX11_likeliestPlace 25 = .ok (.if_icmp .le 5, 3) := by decide +kernel
theorem dX11_likeliestPlace_28 : decode cX11_likeliestPlace 28 = .ok (.iload_n 2, 1) := by decide +kernel
theorem dX11_likeliestPlace_29 : decode cX11_likeliestPlace 29 = .ok (.istore_n 1, 1) := by decide +kernel
theorem dX11_likeliestPlace_30 : decode cX11_likeliestPlace 30 = .ok (.iinc 2 1, 3) := by decide +kernel
theorem dX11_likeliestPlace_33 : decode cX11_likeliestPlace 33 = .ok (.goto (-29), 3) := by decide +kernel
theorem dX11_likeliestPlace_36 : decode cX11_likeliestPlace 36 = .ok (.iload_n 1, 1) := by decide +kernel
theorem dX11_likeliestPlace_37 : decode cX11_likeliestPlace 37 = .ok (.ireturn, 1) := by decide +kernel
def fX11_likeliestPlace_L4 (M : zM) : Nat → Int32 → Int32 → Option Int32
  | 0, _, _ => none
  | n + 1, x1, x2 => if 6 ≤ x2 then (
    some x1)
    else (
    if zin x2 6 then (
    if zin x1 6 then (
    zlet (if (M.1 35 x2.toNatClampNeg) ≤ (M.1 35 x1.toNatClampNeg) then (
    x1)
    else (
    x2)) fun (x1_30 : Int32) =>
    fX11_likeliestPlace_L4 M n x1_30 (x2 + 1)) else none) else none)
def fX11_likeliestPlace  (M : zM) : Option Int32 := (fX11_likeliestPlace_L4 M 4000 0 1).bind fun (x1_36 : Int32) =>
  some x1_36
set_option maxHeartbeats 4000000 in
theorem lX11_likeliestPlace_4 {E : zE} {Γ : zT} {d : Nat} {K1 : Int32 → Prop} (hC : Cx E Γ RX11 cX11_likeliestPlace 3 d) (hd : 0 ≤ d) (M : zM) (hx : ∀ (x1_36 : Int32), K1 x1_36 → G E Γ 3 36 [(1, .int x1_36)] [] M) :
    ∀ (n : Nat) (x1 : Int32) (x2 : Int32), wpO (fX11_likeliestPlace_L4 M n x1 x2) K1 → G E Γ 3 4 [(0, .ref 0), (1, .int x1), (2, .int x2)] [] M := by
  intro n
  induction n with
  | zero =>
    intro x1 x2 h
    exact (wpO_0 h).elim
  | succ n ih =>
    intro x1 x2 h
    rw [fX11_likeliestPlace_L4.eq_2] at h
    refine g_iload_n (i := 2) (x := x2) hC (dX11_likeliestPlace_4) rfl rfl ?_
    refine g_aload_n (i := 0) (x := 0) hC (dX11_likeliestPlace_5) rfl rfl ?_
    refine g_getR (r := 35) hC flX11_102 (dX11_likeliestPlace_6) rfl rfl rfl ?_
    refine g_alen (ek := 0) (n := 6) (v := 6) hC (dX11_likeliestPlace_9) rfl (by decide) rfl ?_
    refine g_icmp_ge (tgt := 36) hC (dX11_likeliestPlace_10) (by decide) (fun c10 => ?_) (fun c10 => ?_)
    · have h := wpO_t c10 h
      refine g_sub (lv' := [(1, .int x1)]) [1] rfl ?_
      exact hx _ (wpO_s h)
    · have h := wpO_f c10 h
      refine g_aload_n (i := 0) (x := 0) hC (dX11_likeliestPlace_13) rfl rfl ?_
      refine g_getR (r := 35) hC flX11_102 (dX11_likeliestPlace_14) rfl rfl rfl ?_
      refine g_iload_n (i := 2) (x := x2) hC (dX11_likeliestPlace_17) rfl rfl ?_
      obtain ⟨q1, h⟩ := wpO_g h
      refine g_iaload (n := 6) hC (dX11_likeliestPlace_18) rfl q1 ?_
      refine g_aload_n (i := 0) (x := 0) hC (dX11_likeliestPlace_19) rfl rfl ?_
      refine g_getR (r := 35) hC flX11_102 (dX11_likeliestPlace_20) rfl rfl rfl ?_
      refine g_iload_n (i := 1) (x := x1) hC (dX11_likeliestPlace_23) rfl rfl ?_
      obtain ⟨q2, h⟩ := wpO_g h
      refine g_iaload (n := 6) hC (dX11_likeliestPlace_24) rfl q2 ?_
      obtain ⟨x1_30, e_x1_30, h⟩ := wpO_l h
      have hJ3 : G E Γ 3 30 [(0, .ref 0), (1, .int x1_30), (2, .int x2)] [] M := by
        refine g_iinc (x := x2) (v := (x2 + 1)) (lv2 := [(2, .int (x2 + 1)), (0, .ref 0), (1, .int x1_30)]) hC (dX11_likeliestPlace_30) rfl rfl (by decide) rfl ?_
        refine g_goto (tgt := 4) hC (dX11_likeliestPlace_33) (by decide) ?_
        refine g_sub (lv' := [(0, .ref 0), (1, .int x1_30), (2, .int (x2 + 1))]) [1, 2, 0] rfl ?_
        exact ih _ _ h
      refine g_icmp_le (tgt := 30) hC (dX11_likeliestPlace_25) (by decide) (fun c25 => ?_) (fun c25 => ?_)
      · rw [if_pos c25] at e_x1_30
        subst e_x1_30
        exact hJ3
      · rw [if_neg c25] at e_x1_30
        refine g_iload_n (i := 2) (x := x2) hC (dX11_likeliestPlace_28) rfl rfl ?_
        refine g_istore_n (i := 1) (lv2 := [(1, .int x2), (0, .ref 0), (2, .int x2)]) hC (dX11_likeliestPlace_29) rfl (by decide) rfl ?_
        refine g_sub (lv' := [(0, .ref 0), (1, .int x2), (2, .int x2)]) [1, 0, 2] rfl ?_
        subst e_x1_30
        exact hJ3
set_option maxHeartbeats 4000000 in
theorem cX11_likeliestPlace_ok {E : zE} {d : Nat} (hd : 0 ≤ d)  (M : zM) {K : Int32 → Prop} (h : wpO (fX11_likeliestPlace  M) K) : CMi E d yX11_likeliestPlace cX11_likeliestPlace 3 (some .int) [.ref 0] M (fun r N => M = N ∧ K r) := by
  refine CMi.of (by decide) (Nat.le_of_ble_eq_true rfl) (fun Γ hC hr => ?_)
  have hC : Cx E Γ RX11 cX11_likeliestPlace 3 d := hC
  show G E Γ 3 0 [(0, .ref 0)] [] M
  unfold fX11_likeliestPlace at h
  refine g_iconst (v := 0) hC (dX11_likeliestPlace_0) kc_0 ?_
  refine g_istore_n (i := 1) (lv2 := [(1, .int 0), (0, .ref 0)]) hC (dX11_likeliestPlace_1) rfl (by decide) rfl ?_
  refine g_iconst (v := 1) hC (dX11_likeliestPlace_2) kc_1 ?_
  refine g_istore_n (i := 2) (lv2 := [(2, .int 1), (1, .int 0), (0, .ref 0)]) hC (dX11_likeliestPlace_3) rfl (by decide) rfl ?_
  refine g_sub (lv' := [(0, .ref 0), (1, .int 0), (2, .int 1)]) [2, 1, 0] rfl ?_
  refine wpO_bJ h (fun KL4 hKL4 h => ?_)
  refine lX11_likeliestPlace_4 (K1 := KL4) hC (by omega) M (fun x1_36 h => ?_) _ _ _ h
  have h := hKL4 _ h
  refine g_iload_n (i := 1) (x := x1_36) hC (dX11_likeliestPlace_36) rfl rfl ?_
  refine g_ireturn hC hr (dX11_likeliestPlace_37) ?_
  exact ⟨rfl, wpO_s h⟩
/-! LostByState.tellLooks(IJ)V -/
theorem dX11_tellLooks_0 : decode cX11_tellLooks 0 = .ok (.iconst 0, 1) := by decide +kernel
theorem dX11_tellLooks_1 : decode cX11_tellLooks 1 = .ok (.istore 4, 2) := by decide +kernel
theorem dX11_tellLooks_3 : decode cX11_tellLooks 3 = .ok (.iload 4, 2) := by decide +kernel
theorem dX11_tellLooks_5 : decode cX11_tellLooks 5 = .ok (.aload_n 0, 1) := by decide +kernel
theorem dX11_tellLooks_6 : decode cX11_tellLooks 6 = .ok (.getfield 102, 3) := by decide +kernel
theorem dX11_tellLooks_9 : decode cX11_tellLooks 9 = .ok (.arraylength, 1) := by decide +kernel
theorem dX11_tellLooks_10 : decode cX11_tellLooks 10 = .ok (.if_icmp .ge 21, 3) := by decide +kernel
theorem dX11_tellLooks_13 : decode cX11_tellLooks 13 = .ok (.aload_n 0, 1) := by decide +kernel
theorem dX11_tellLooks_14 : decode cX11_tellLooks 14 = .ok (.getfield 102, 3) := by decide +kernel
theorem dX11_tellLooks_17 : decode cX11_tellLooks 17 = .ok (.iload 4, 2) := by decide +kernel
theorem dX11_tellLooks_19 : decode cX11_tellLooks 19 = .ok (.dup2, 1) := by decide +kernel
theorem dX11_tellLooks_20 : decode cX11_tellLooks 20 = .ok (.iaload, 1) := by decide +kernel
theorem dX11_tellLooks_21 : decode cX11_tellLooks 21 = .ok (.bipush 10, 2) := by decide +kernel
theorem dX11_tellLooks_23 : decode cX11_tellLooks 23 = .ok (.ishl, 1) := by decide +kernel
theorem dX11_tellLooks_24 : decode cX11_tellLooks 24 = .ok (.iastore, 1) := by decide +kernel
theorem dX11_tellLooks_25 : decode cX11_tellLooks 25 = .ok (.iinc 4 1, 3) := by decide +kernel
theorem dX11_tellLooks_28 : decode cX11_tellLooks 28 = .ok (.goto (-25), 3) := by decide +kernel
theorem dX11_tellLooks_31 : decode cX11_tellLooks 31 = .ok (.lconst 0, 1) := by decide +kernel
theorem dX11_tellLooks_32 : decode cX11_tellLooks 32 = .ok (.lstore 4, 2) := by decide +kernel
theorem dX11_tellLooks_34 : decode cX11_tellLooks 34 = .ok (.aload_n 0, 1) := by decide +kernel
theorem dX11_tellLooks_35 : decode cX11_tellLooks 35 = .ok (.getfield 19, 3) := by decide +kernel
theorem dX11_tellLooks_38 : decode cX11_tellLooks 38 = .ok (.invokevirtual 230, 3) := by decide +kernel
theorem dX11_tellLooks_41 : decode cX11_tellLooks 41 = .ok (.aload_n 0, 1) := by decide +kernel
theorem dX11_tellLooks_42 : decode cX11_tellLooks 42 = .ok (.getfield 19, 3) := by decide +kernel
theorem dX11_tellLooks_45 : decode cX11_tellLooks 45 = .ok (.lconst 0, 1) := by decide +kernel
theorem dX11_tellLooks_46 : decode cX11_tellLooks 46 = .ok (.lconst 1, 1) := by decide +kernel
theorem dX11_tellLooks_47 : decode cX11_tellLooks 47 = .ok (.invokevirtual 372, 3) := by decide +kernel
theorem dX11_tellLooks_50 : decode cX11_tellLooks 50 = .ok (.iconst 0, 1) := by decide +kernel
theorem dX11_tellLooks_51 : decode cX11_tellLooks 51 = .ok (.istore 6, 2) := by decide +kernel
theorem dX11_tellLooks_53 : decode cX11_tellLooks 53 = .ok (.iload 6, 2) := by decide +kernel
theorem dX11_tellLooks_55 : decode cX11_tellLooks 55 = .ok (.iload_n 1, 1) := by decide +kernel
theorem dX11_tellLooks_56 : decode cX11_tellLooks 56 = .ok (.if_icmp .ge 49, 3) := by decide +kernel
theorem dX11_tellLooks_59 : decode cX11_tellLooks 59 = .ok (.aload_n 0, 1) := by decide +kernel
theorem dX11_tellLooks_60 : decode cX11_tellLooks 60 = .ok (.invokevirtual 463, 3) := by decide +kernel
theorem dX11_tellLooks_63 : decode cX11_tellLooks 63 = .ok (.istore 7, 2) := by decide +kernel
theorem dX11_tellLooks_65 : decode cX11_tellLooks 65 = .ok (.aload_n 0, 1) := by decide +kernel
theorem dX11_tellLooks_66 : decode cX11_tellLooks 66 = .ok (.getfield 102, 3) := by decide +kernel
theorem dX11_tellLooks_69 : decode cX11_tellLooks 69 = .ok (.iload 7, 2) := by decide +kernel
theorem dX11_tellLooks_71 : decode cX11_tellLooks 71 = .ok (.dup2, 1) := by decide +kernel
theorem dX11_tellLooks_72 : decode cX11_tellLooks 72 = .ok (.iaload, 1) := by decide +kernel
theorem dX11_tellLooks_73 : decode cX11_tellLooks 73 = .ok (.iconst 2, 1) := by decide +kernel
theorem dX11_tellLooks_74 : decode cX11_tellLooks 74 = .ok (.idiv, 1) := by decide +kernel
theorem dX11_tellLooks_75 : decode cX11_tellLooks 75 = .ok (.iastore, 1) := by decide +kernel
theorem dX11_tellLooks_76 : decode cX11_tellLooks 76 = .ok (.lload 4, 2) := by decide +kernel
theorem dX11_tellLooks_78 : decode cX11_tellLooks 78 = .ok (.aload_n 0, 1) := by decide +kernel
theorem dX11_tellLooks_79 : decode cX11_tellLooks 79 = .ok (.getfield 102, 3) := by decide +kernel
theorem dX11_tellLooks_82 : decode cX11_tellLooks 82 = .ok (.iload 7, 2) := by decide +kernel
theorem dX11_tellLooks_84 : decode cX11_tellLooks 84 = .ok (.iaload, 1) := by decide +kernel
theorem dX11_tellLooks_85 : decode cX11_tellLooks 85 = .ok (.i2l, 1) := by decide +kernel
theorem dX11_tellLooks_86 : decode cX11_tellLooks 86 = .ok (.ladd, 1) := by decide +kernel
theorem dX11_tellLooks_87 : decode cX11_tellLooks 87 = .ok (.lstore 4, 2) := by decide +kernel
theorem dX11_tellLooks_89 : decode cX11_tellLooks 89 = .ok (.aload_n 0, 1) := by decide +kernel
theorem dX11_tellLooks_90 : decode cX11_tellLooks 90 = .ok (.getfield 19, 3) := by decide +kernel
theorem dX11_tellLooks_93 : decode cX11_tellLooks 93 = .ok (.iload 7, 2) := by decide +kernel
theorem dX11_tellLooks_95 : decode cX11_tellLooks 95 = .ok (.i2l, 1) := by decide +kernel
theorem dX11_tellLooks_96 : decode cX11_tellLooks 96 = .ok (.invokevirtual 233, 3) := by decide +kernel
theorem dX11_tellLooks_99 : decode cX11_tellLooks 99 = .ok (.iinc 6 1, 3) := by decide +kernel
theorem dX11_tellLooks_102 : decode cX11_tellLooks 102 = .ok (.goto (-49), 3) := by decide +kernel
theorem dX11_tellLooks_105 : decode cX11_tellLooks 105 = .ok (.aload_n 0, 1) := by decide +kernel
theorem dX11_tellLooks_106 : decode cX11_tellLooks 106 = .ok (.getfield 19, 3) := by decide +kernel
theorem dX11_tellLooks_109 : decode cX11_tellLooks 109 = .ok (.iconst 0, 1) := by decide +kernel
theorem dX11_tellLooks_110 : decode cX11_tellLooks 110 = .ok (.lload 4, 2) := by decide +kernel
theorem dX11_tellLooks_112 : decode cX11_tellLooks 112 = .ok (.lload_n 2, 1) := by decide +kernel
theorem dX11_tellLooks_113 : decode cX11_tellLooks 113 = .ok (.bipush 10, 2) := by decide +kernel
theorem dX11_tellLooks_115 : decode cX11_tellLooks 115 = .ok (.lshl, 1) := by decide +kernel
theorem dX11_tellLooks_116 : decode cX11_tellLooks 116 = .ok (.invokevirtual 466, 3) := by decide +kernel
theorem dX11_tellLooks_119 : decode cX11_tellLooks 119 = .ok (.return_, 1) := by decide +kernel
def fX11_tellLooks_L3 (x1 : Int32) (x2 : Int64) : Nat → Int32 → zM → Option zM
  | 0, _, _ => none
  | n + 1, x4, M => if 6 ≤ x4 then (
    some M)
    else (
    if zin x4 6 then (
    zlet (zSI M 35 x4.toNatClampNeg (zshl (M.1 35 x4.toNatClampNeg) 10)) fun (M24 : zM) =>
    fX11_tellLooks_L3 x1 x2 n (x4 + 1) M24) else none)
def fX11_tellLooks_L53 (x1 : Int32) (x2 : Int64) : Nat → Int64 → Int32 → zM → Option (Int64 × zM)
  | 0, _, _, _ => none
  | n + 1, x4, x6, M => if x1 ≤ x6 then (
    some (x4, M))
    else (
    (fX11_likeliestPlace M).bind fun (r4 : Int32) =>
    if zin r4 6 then (
    zlet (zSI M 35 r4.toNatClampNeg ((M.1 35 r4.toNatClampNeg) / 2)) fun (M75 : zM) =>
    zlet (x4 + ((M75.1 35 r4.toNatClampNeg).toInt64)) fun (x4_87 : Int64) =>
    (fX3_tell r4.toInt64 M75).bind fun (M96 : zM) =>
    fX11_tellLooks_L53 x1 x2 n x4_87 (x6 + 1) M96) else none)
def fX11_tellLooks (x1 : Int32) (x2 : Int64) (M : zM) : Option zM := (fX11_tellLooks_L3 x1 x2 4000 0 M).bind fun (M_31 : zM) =>
  zlet (fX3_begin M_31) fun (M38 : zM) =>
  (fX3_tellFraction 0 1 M38).bind fun (M47 : zM) =>
  (fX11_tellLooks_L53 x1 x2 4000 0 0 M47).bind fun (q : Int64 × zM) => zp q fun x4_105 M_105 =>
  (fX3_putFraction 0 x4_105 (zlshl x2 10) M_105).bind fun (M116 : zM) =>
  some M116
set_option maxHeartbeats 4000000 in
theorem lX11_tellLooks_3 {E : zE} {Γ : zT} {d : Nat} {K1 : zM → Prop} (hC : Cx E Γ RX11 cX11_tellLooks 8 d) (hd : 3 ≤ d) (x1 : Int32) (x2 : Int64) (hx : ∀ (M_31 : zM), K1 M_31 → G E Γ 8 31 [(0, .ref 0), (1, .int x1), (2, .long x2)] [] M_31) :
    ∀ (n : Nat) (x4 : Int32) (M : zM), wpO (fX11_tellLooks_L3 x1 x2 n x4 M) K1 → G E Γ 8 3 [(0, .ref 0), (1, .int x1), (2, .long x2), (4, .int x4)] [] M := by
  intro n
  induction n with
  | zero =>
    intro x4 M h
    exact (wpO_0 h).elim
  | succ n ih =>
    intro x4 M h
    rw [fX11_tellLooks_L3.eq_2] at h
    refine g_iload (i := 4) (x := x4) hC (dX11_tellLooks_3) rfl ?_
    refine g_aload_n (i := 0) (x := 0) hC (dX11_tellLooks_5) rfl rfl ?_
    refine g_getR (r := 35) hC flX11_102 (dX11_tellLooks_6) rfl rfl rfl ?_
    refine g_alen (ek := 0) (n := 6) (v := 6) hC (dX11_tellLooks_9) rfl (by decide) rfl ?_
    refine g_icmp_ge (tgt := 31) hC (dX11_tellLooks_10) (by decide) (fun c10 => ?_) (fun c10 => ?_)
    · have h := wpO_t c10 h
      refine g_sub (lv' := [(0, .ref 0), (1, .int x1), (2, .long x2)]) [0, 1, 2] rfl ?_
      exact hx _ (wpO_s h)
    · have h := wpO_f c10 h
      refine g_aload_n (i := 0) (x := 0) hC (dX11_tellLooks_13) rfl rfl ?_
      refine g_getR (r := 35) hC flX11_102 (dX11_tellLooks_14) rfl rfl rfl ?_
      refine g_iload (i := 4) (x := x4) hC (dX11_tellLooks_17) rfl ?_
      refine g_dup2 hC (dX11_tellLooks_19) rfl rfl ?_
      obtain ⟨q1, h⟩ := wpO_g h
      refine g_iaload (n := 6) hC (dX11_tellLooks_20) rfl q1 ?_
      refine g_bipush (v := 10) hC (dX11_tellLooks_21) kb_10 ?_
      refine g_ishl hC (dX11_tellLooks_23) ?_
      refine g_iastore (n := 6) hC (dX11_tellLooks_24) rfl q1 ?_
      refine g_nmM (fun M24 e_M24 => ?_)
      have h := wpO_n e_M24 h
      refine g_iinc (x := x4) (v := (x4 + 1)) (lv2 := [(4, .int (x4 + 1)), (0, .ref 0), (1, .int x1), (2, .long x2)]) hC (dX11_tellLooks_25) rfl rfl (by decide) rfl ?_
      refine g_goto (tgt := 3) hC (dX11_tellLooks_28) (by decide) ?_
      refine g_sub (lv' := [(0, .ref 0), (1, .int x1), (2, .long x2), (4, .int (x4 + 1))]) [1, 2, 3, 0] rfl ?_
      exact ih _ _ h
set_option maxHeartbeats 4000000 in
theorem lX11_tellLooks_53 {E : zE} {Γ : zT} {d : Nat} {K1 : (Int64 × zM) → Prop} (hC : Cx E Γ RX11 cX11_tellLooks 8 d) (hd : 3 ≤ d) (x1 : Int32) (x2 : Int64) (hx : ∀ (x4_105 : Int64) (M_105 : zM), K1 (x4_105, M_105) → G E Γ 8 105 [(0, .ref 0), (2, .long x2), (4, .long x4_105)] [] M_105) :
    ∀ (n : Nat) (x4 : Int64) (x6 : Int32) (M : zM), wpO (fX11_tellLooks_L53 x1 x2 n x4 x6 M) K1 → G E Γ 8 53 [(0, .ref 0), (1, .int x1), (2, .long x2), (4, .long x4), (6, .int x6)] [] M := by
  intro n
  induction n with
  | zero =>
    intro x4 x6 M h
    exact (wpO_0 h).elim
  | succ n ih =>
    intro x4 x6 M h
    rw [fX11_tellLooks_L53.eq_2] at h
    refine g_iload (i := 6) (x := x6) hC (dX11_tellLooks_53) rfl ?_
    refine g_iload_n (i := 1) (x := x1) hC (dX11_tellLooks_55) rfl rfl ?_
    refine g_icmp_ge (tgt := 105) hC (dX11_tellLooks_56) (by decide) (fun c56 => ?_) (fun c56 => ?_)
    · have h := wpO_t c56 h
      refine g_sub (lv' := [(0, .ref 0), (2, .long x2), (4, .long x4)]) [0, 2, 3] rfl ?_
      exact hx _ _ (wpO_s h)
    · have h := wpO_f c56 h
      refine g_aload_n (i := 0) (x := 0) hC (dX11_tellLooks_59) rfl rfl ?_
      have h := wpO_b h
      refine g_callVi ([]) hC wvX11_463 (dX11_tellLooks_60) rfl rfl (by omega) (Nat.le_of_ble_eq_true rfl) (cX11_likeliestPlace_ok (by omega) M h) (fun r4 N q => ?_)
      obtain ⟨rfl, h⟩ := q
      refine g_istore (i := 7) (lv2 := [(7, .int r4), (0, .ref 0), (1, .int x1), (2, .long x2), (4, .long x4), (6, .int x6)]) hC (dX11_tellLooks_63) (by decide) rfl ?_
      refine g_aload_n (i := 0) (x := 0) hC (dX11_tellLooks_65) rfl rfl ?_
      refine g_getR (r := 35) hC flX11_102 (dX11_tellLooks_66) rfl rfl rfl ?_
      refine g_iload (i := 7) (x := r4) hC (dX11_tellLooks_69) rfl ?_
      refine g_dup2 hC (dX11_tellLooks_71) rfl rfl ?_
      obtain ⟨q5, h⟩ := wpO_g h
      refine g_iaload (n := 6) hC (dX11_tellLooks_72) rfl q5 ?_
      refine g_iconst (v := 2) hC (dX11_tellLooks_73) kc_2 ?_
      refine g_idiv hC (dX11_tellLooks_74) (by decide) ?_
      refine g_iastore (n := 6) hC (dX11_tellLooks_75) rfl q5 ?_
      refine g_nmM (fun M75 e_M75 => ?_)
      have h := wpO_n e_M75 h
      refine g_lload (i := 4) (x := x4) hC (dX11_tellLooks_76) rfl ?_
      refine g_aload_n (i := 0) (x := 0) hC (dX11_tellLooks_78) rfl rfl ?_
      refine g_getR (r := 35) hC flX11_102 (dX11_tellLooks_79) rfl rfl rfl ?_
      refine g_iload (i := 7) (x := r4) hC (dX11_tellLooks_82) rfl ?_
      refine g_iaload (n := 6) hC (dX11_tellLooks_84) rfl q5 ?_
      refine g_i2l hC (dX11_tellLooks_85) ?_
      refine g_ladd hC (dX11_tellLooks_86) ?_
      refine g_nml (fun x4_87 e_x4_87 => ?_)
      have h := wpO_n e_x4_87 h
      refine g_lstore (i := 4) (lv2 := [(4, .long x4_87), (7, .int r4), (0, .ref 0), (1, .int x1), (2, .long x2), (6, .int x6)]) hC (dX11_tellLooks_87) (by decide) rfl ?_
      refine g_aload_n (i := 0) (x := 0) hC (dX11_tellLooks_89) rfl rfl ?_
      refine g_getR (r := 3) hC flX11_19 (dX11_tellLooks_90) rfl rfl rfl ?_
      refine g_iload (i := 7) (x := r4) hC (dX11_tellLooks_93) rfl ?_
      refine g_i2l hC (dX11_tellLooks_95) ?_
      have h := wpO_b h
      refine g_callVv ([.long r4.toInt64]) hC wvX11_233 (dX11_tellLooks_96) rfl rfl (by omega) (Nat.le_of_ble_eq_true rfl) (cX3_tell_ok (by omega) r4.toInt64 M75 h) (fun M96 h => ?_)
      refine g_iinc (x := x6) (v := (x6 + 1)) (lv2 := [(6, .int (x6 + 1)), (4, .long x4_87), (7, .int r4), (0, .ref 0), (1, .int x1), (2, .long x2)]) hC (dX11_tellLooks_99) rfl rfl (by decide) rfl ?_
      refine g_goto (tgt := 53) hC (dX11_tellLooks_102) (by decide) ?_
      refine g_sub (lv' := [(0, .ref 0), (1, .int x1), (2, .long x2), (4, .long x4_87), (6, .int (x6 + 1))]) [3, 4, 5, 1, 0] rfl ?_
      exact ih _ _ _ h
set_option maxHeartbeats 4000000 in
theorem cX11_tellLooks_ok {E : zE} {d : Nat} (hd : 3 ≤ d) (x1 : Int32) (x2 : Int64) (M : zM) {K : zM → Prop} (h : wpO (fX11_tellLooks x1 x2 M) K) : CMv E d yX11_tellLooks cX11_tellLooks 8 (none) [.ref 0, .int x1, .long x2] M K := by
  refine CMv.of (by decide) (Nat.le_of_ble_eq_true rfl) (fun Γ hC hr => ?_)
  have hC : Cx E Γ RX11 cX11_tellLooks 8 d := hC
  show G E Γ 8 0 [(0, .ref 0), (1, .int x1), (2, .long x2)] [] M
  unfold fX11_tellLooks at h
  refine g_iconst (v := 0) hC (dX11_tellLooks_0) kc_0 ?_
  refine g_istore (i := 4) (lv2 := [(4, .int 0), (0, .ref 0), (1, .int x1), (2, .long x2)]) hC (dX11_tellLooks_1) (by decide) rfl ?_
  refine g_sub (lv' := [(0, .ref 0), (1, .int x1), (2, .long x2), (4, .int 0)]) [1, 2, 3, 0] rfl ?_
  refine wpO_bJ h (fun KL3 hKL3 h => ?_)
  refine lX11_tellLooks_3 (K1 := KL3) hC (by omega) x1 x2 (fun M_31 h => ?_) _ _ _ h
  have h := hKL3 _ h
  refine g_lconst (v := 0) hC (dX11_tellLooks_31) kl_0 ?_
  refine g_lstore (i := 4) (lv2 := [(4, .long 0), (0, .ref 0), (1, .int x1), (2, .long x2)]) hC (dX11_tellLooks_32) (by decide) rfl ?_
  refine g_aload_n (i := 0) (x := 0) hC (dX11_tellLooks_34) rfl rfl ?_
  refine g_getR (r := 3) hC flX11_19 (dX11_tellLooks_35) rfl rfl rfl ?_
  refine g_callVv ([]) hC wvX11_230 (dX11_tellLooks_38) rfl rfl (by omega) (Nat.le_of_ble_eq_true rfl) (cX3_begin_ok (by omega) M_31 (K := fun r => r = fX3_begin M_31) rfl) (fun N q => ?_)
  subst q
  refine g_nmM (fun M38 e_M38 => ?_)
  have h := wpO_n e_M38 h
  refine g_aload_n (i := 0) (x := 0) hC (dX11_tellLooks_41) rfl rfl ?_
  refine g_getR (r := 3) hC flX11_19 (dX11_tellLooks_42) rfl rfl rfl ?_
  refine g_lconst (v := 0) hC (dX11_tellLooks_45) kl_0 ?_
  refine g_lconst (v := 1) hC (dX11_tellLooks_46) kl_1 ?_
  have h := wpO_b h
  refine g_callVv ([.long 0, .long 1]) hC wvX11_372 (dX11_tellLooks_47) rfl rfl (by omega) (Nat.le_of_ble_eq_true rfl) (cX3_tellFraction_ok (by omega) 0 1 M38 h) (fun M47 h => ?_)
  refine g_iconst (v := 0) hC (dX11_tellLooks_50) kc_0 ?_
  refine g_istore (i := 6) (lv2 := [(6, .int 0), (4, .long 0), (0, .ref 0), (1, .int x1), (2, .long x2)]) hC (dX11_tellLooks_51) (by decide) rfl ?_
  refine g_sub (lv' := [(0, .ref 0), (1, .int x1), (2, .long x2), (4, .long 0), (6, .int 0)]) [2, 3, 4, 1, 0] rfl ?_
  refine wpO_bJ h (fun KL53 hKL53 h => ?_)
  refine lX11_tellLooks_53 (K1 := KL53) hC (by omega) x1 x2 (fun x4_105 M_105 h => ?_) _ _ _ _ h
  have h := hKL53 _ h
  have h := wpO_p h
  refine g_aload_n (i := 0) (x := 0) hC (dX11_tellLooks_105) rfl rfl ?_
  refine g_getR (r := 3) hC flX11_19 (dX11_tellLooks_106) rfl rfl rfl ?_
  refine g_iconst (v := 0) hC (dX11_tellLooks_109) kc_0 ?_
  refine g_lload (i := 4) (x := x4_105) hC (dX11_tellLooks_110) rfl ?_
  refine g_lload_n (i := 2) (x := x2) hC (dX11_tellLooks_112) rfl rfl ?_
  refine g_bipush (v := 10) hC (dX11_tellLooks_113) kb_10 ?_
  refine g_lshl hC (dX11_tellLooks_115) ?_
  have h := wpO_b h
  refine g_callVv ([.int 0, .long x4_105, .long (zlshl x2 10)]) hC wvX11_466 (dX11_tellLooks_116) rfl rfl (by omega) (Nat.le_of_ble_eq_true rfl) (cX3_putFraction_ok (by omega) 0 x4_105 (zlshl x2 10) M_105 h) (fun M116 h => ?_)
  refine g_vreturn hC hr (dX11_tellLooks_119) ?_
  exact wpO_s h
/-! LostByState.looks(I)I -/
theorem dX11_looks_0 : decode cX11_looks 0 = .ok (.iload_n 1, 1) := by decide +kernel
theorem dX11_looks_1 : decode cX11_looks 1 = .ok (.ifCond .lt 9, 3) := by decide +kernel
theorem dX11_looks_4 : decode cX11_looks 4 = .ok (.iload_n 1, 1) := by decide +kernel
theorem dX11_looks_5 : decode cX11_looks 5 = .ok (.bipush 10, 2) := by decide +kernel
theorem dX11_looks_7 : decode cX11_looks 7 = .ok (.if_icmp .le 14, 3) := by decide +kernel
theorem dX11_looks_10 : decode cX11_looks 10 = .ok (.aload_n 0, 1) := by decide +kernel
theorem dX11_looks_11 : decode cX11_looks 11 = .ok (.getfield 10, 3) := by decide +kernel
theorem dX11_looks_14 : decode cX11_looks 14 = .ok (.invokevirtual 132, 3) := by decide +kernel
theorem dX11_looks_17 : decode cX11_looks 17 = .ok (.sipush (-200), 3) := by decide +kernel
theorem dX11_looks_20 : decode cX11_looks 20 = .ok (.ireturn, 1) := by decide +kernel
theorem dX11_looks_21 : decode cX11_looks 21 = .ok (.aload_n 0, 1) := by decide +kernel
theorem dX11_looks_22 : decode cX11_looks 22 = .ok (.getfield 10, 3) := by decide +kernel
theorem dX11_looks_25 : decode cX11_looks 25 = .ok (.aload_n 0, 1) := by decide +kernel
theorem dX11_looks_26 : decode cX11_looks 26 = .ok (.getfield 102, 3) := by decide +kernel
theorem dX11_looks_29 : decode cX11_looks 29 = .ok (.invokevirtual 354, 3) := by decide +kernel
theorem dX11_looks_32 : decode cX11_looks 32 = .ok (.istore_n 2, 1) := by decide +kernel
theorem dX11_looks_33 : decode cX11_looks 33 = .ok (.aload_n 0, 1) := by decide +kernel
theorem dX11_looks_34 : decode cX11_looks 34 = .ok (.getfield 10, 3) := by decide +kernel
theorem dX11_looks_37 : decode cX11_looks 37 = .ok (.invokevirtual 132, 3) := by decide +kernel
theorem dX11_looks_40 : decode cX11_looks 40 = .ok (.iload_n 2, 1) := by decide +kernel
theorem dX11_looks_41 : decode cX11_looks 41 = .ok (.ifCond .ge 5, 3) := by decide +kernel
theorem dX11_looks_44 : decode cX11_looks 44 = .ok (.iload_n 2, 1) := by decide +kernel
theorem dX11_looks_45 : decode cX11_looks 45 = .ok (.ireturn, 1) := by decide +kernel
theorem dX11_looks_46 : decode cX11_looks 46 = .ok (.iload_n 2, 1) := by decide +kernel
theorem dX11_looks_47 : decode cX11_looks 47 = .ok (.bipush 6, 2) := by decide +kernel
theorem dX11_looks_49 : decode cX11_looks 49 = .ok (.if_icmp .ge 7, 3) := by decide +kernel
theorem dX11_looks_52 : decode cX11_looks 52 = .ok (.iconst (-1), 1) := by decide +kernel
theorem dX11_looks_53 : decode cX11_looks 53 = .ok (.iload_n 2, 1) := by decide +kernel
theorem dX11_looks_54 : decode cX11_looks 54 = .ok (.isub, 1) := by decide +kernel
theorem dX11_looks_55 : decode cX11_looks 55 = .ok (.ireturn, 1) := by decide +kernel
theorem dX11_looks_56 : decode cX11_looks 56 = .ok (.aload_n 0, 1) := by decide +kernel
theorem dX11_looks_57 : decode cX11_looks 57 = .ok (.invokevirtual 358, 3) := by decide +kernel
theorem dX11_looks_60 : decode cX11_looks 60 = .ok (.lstore_n 3, 1) := by decide +kernel
theorem dX11_looks_61 : decode cX11_looks 61 = .ok (.lload_n 3, 1) := by decide +kernel
theorem dX11_looks_62 : decode cX11_looks 62 = .ok (.lconst 0, 1) := by decide +kernel
theorem dX11_looks_63 : decode cX11_looks 63 = .ok (.lcmp, 1) := by decide +kernel
theorem dX11_looks_64 : decode cX11_looks 64 = .ok (.ifCond .ne 6, 3) := by decide +kernel
theorem dX11_looks_67 : decode cX11_looks 67 = .ok (.bipush (-100), 2) := by decide +kernel
theorem dX11_looks_69 : decode cX11_looks 69 = .ok (.ireturn, 1) := by decide +kernel
theorem dX11_looks_70 : decode cX11_looks 70 = .ok (.aload_n 0, 1) := by decide +kernel
theorem dX11_looks_71 : decode cX11_looks 71 = .ok (.iload_n 1, 1) := by decide +kernel
theorem dX11_looks_72 : decode cX11_looks 72 = .ok (.lload_n 3, 1) := by decide +kernel
theorem dX11_looks_73 : decode cX11_looks 73 = .ok (.invokevirtual 362, 3) := by decide +kernel
theorem dX11_looks_76 : decode cX11_looks 76 = .ok (.iconst 0, 1) := by decide +kernel
theorem dX11_looks_77 : decode cX11_looks 77 = .ok (.ireturn, 1) := by decide +kernel
def fX11_looks (x1 : Int32) (M : zM) : Option (Int32 × zM) := zj (fun (_ : Unit) =>
  zlet (fX9_clear M) fun (M14 : zM) =>
  some ((-200), M14))
  fun J1 =>
  if x1 < 0 then (
  J1 ())
  else (
  if x1 ≤ 10 then (
  (fX9_readDigits 35 M).bind fun (q : Int32 × zM) => zp q fun r2 M29 =>
  zlet (fX9_clear M29) fun (M37 : zM) =>
  if 0 ≤ r2 then (
  if 6 ≤ r2 then (
  (fX11_sumOfDigits M37).bind fun (r4 : Int64) =>
  if (lg_cmp r4 0) = 0 then (
  some ((-100), M37))
  else (
  (fX11_tellLooks x1 r4 M37).bind fun (M73 : zM) =>
  some (0, M73)))
  else (
  some ((-1) - r2, M37)))
  else (
  some (r2, M37)))
  else (
  J1 ()))
set_option maxHeartbeats 4000000 in
theorem cX11_looks_ok {E : zE} {d : Nat} (hd : 4 ≤ d) (x1 : Int32) (M : zM) {K : (Int32 × zM) → Prop} (h : wpO (fX11_looks x1 M) K) : CMi E d yX11_looks cX11_looks 5 (some .int) [.ref 0, .int x1] M (fun r N => K (r, N)) := by
  refine CMi.of (by decide) (Nat.le_of_ble_eq_true rfl) (fun Γ hC hr => ?_)
  have hC : Cx E Γ RX11 cX11_looks 5 d := hC
  show G E Γ 5 0 [(0, .ref 0), (1, .int x1)] [] M
  unfold fX11_looks at h
  refine g_iload_n (i := 1) (x := x1) hC (dX11_looks_0) rfl rfl ?_
  refine wpO_j h (fun J1 hkJ1 h => ?_)
  have hJ1 : ∀ (_ : Unit), wpO (J1 ()) K → G E Γ 5 10 [(0, .ref 0)] [] M := by
    intro _ h
    have h := hkJ1 _ h
    refine g_aload_n (i := 0) (x := 0) hC (dX11_looks_10) rfl rfl ?_
    refine g_getR (r := 1) hC flX11_10 (dX11_looks_11) rfl rfl rfl ?_
    refine g_callVv ([]) hC wvX11_132 (dX11_looks_14) rfl rfl (by omega) (Nat.le_of_ble_eq_true rfl) (cX9_clear_ok (by omega) M (K := fun r => r = fX9_clear M) rfl) (fun N q => ?_)
    subst q
    refine g_nmM (fun M14 e_M14 => ?_)
    have h := wpO_n e_M14 h
    refine g_sipush (v := (-200)) hC (dX11_looks_17) ks_m200 ?_
    refine g_ireturn hC hr (dX11_looks_20) ?_
    exact wpO_s h
  refine g_if_lt (tgt := 10) hC (dX11_looks_1) (by decide) (fun c1 => ?_) (fun c1 => ?_)
  · have h := wpO_t c1 h
    refine g_sub (lv' := [(0, .ref 0)]) [0] rfl ?_
    exact hJ1 () h
  · have h := wpO_f c1 h
    refine g_iload_n (i := 1) (x := x1) hC (dX11_looks_4) rfl rfl ?_
    refine g_bipush (v := 10) hC (dX11_looks_5) kb_10 ?_
    refine g_icmp_le (tgt := 21) hC (dX11_looks_7) (by decide) (fun c7 => ?_) (fun c7 => ?_)
    · have h := wpO_t c7 h
      refine g_aload_n (i := 0) (x := 0) hC (dX11_looks_21) rfl rfl ?_
      refine g_getR (r := 1) hC flX11_10 (dX11_looks_22) rfl rfl rfl ?_
      refine g_aload_n (i := 0) (x := 0) hC (dX11_looks_25) rfl rfl ?_
      refine g_getR (r := 35) hC flX11_102 (dX11_looks_26) rfl rfl rfl ?_
      have h := wpO_b h
      refine g_callVi ([.ref 35]) hC wvX11_354 (dX11_looks_29) rfl rfl (by omega) (Nat.le_of_ble_eq_true rfl) (cX9_readDigits_ok (by omega) 35 M h) (fun r2 M29 h => ?_)
      have h := wpO_p h
      refine g_istore_n (i := 2) (lv2 := [(2, .int r2), (0, .ref 0), (1, .int x1)]) hC (dX11_looks_32) rfl (by decide) rfl ?_
      refine g_aload_n (i := 0) (x := 0) hC (dX11_looks_33) rfl rfl ?_
      refine g_getR (r := 1) hC flX11_10 (dX11_looks_34) rfl rfl rfl ?_
      refine g_callVv ([]) hC wvX11_132 (dX11_looks_37) rfl rfl (by omega) (Nat.le_of_ble_eq_true rfl) (cX9_clear_ok (by omega) M29 (K := fun r => r = fX9_clear M29) rfl) (fun N q => ?_)
      subst q
      refine g_nmM (fun M37 e_M37 => ?_)
      have h := wpO_n e_M37 h
      refine g_iload_n (i := 2) (x := r2) hC (dX11_looks_40) rfl rfl ?_
      refine g_if_ge (tgt := 46) hC (dX11_looks_41) (by decide) (fun c41 => ?_) (fun c41 => ?_)
      · have h := wpO_t c41 h
        refine g_iload_n (i := 2) (x := r2) hC (dX11_looks_46) rfl rfl ?_
        refine g_bipush (v := 6) hC (dX11_looks_47) kb_6 ?_
        refine g_icmp_ge (tgt := 56) hC (dX11_looks_49) (by decide) (fun c49 => ?_) (fun c49 => ?_)
        · have h := wpO_t c49 h
          refine g_aload_n (i := 0) (x := 0) hC (dX11_looks_56) rfl rfl ?_
          have h := wpO_b h
          refine g_callVl ([]) hC wvX11_358 (dX11_looks_57) rfl rfl (by omega) (Nat.le_of_ble_eq_true rfl) (cX11_sumOfDigits_ok (by omega) M37 h) (fun r4 N q => ?_)
          obtain ⟨rfl, h⟩ := q
          refine g_lstore_n (i := 3) (lv2 := [(3, .long r4), (2, .int r2), (0, .ref 0), (1, .int x1)]) hC (dX11_looks_60) rfl (by decide) rfl ?_
          refine g_lload_n (i := 3) (x := r4) hC (dX11_looks_61) rfl rfl ?_
          refine g_lconst (v := 0) hC (dX11_looks_62) kl_0 ?_
          refine g_lcmp hC (dX11_looks_63) ?_
          refine g_if_ne (tgt := 70) hC (dX11_looks_64) (by decide) (fun c64 => ?_) (fun c64 => ?_)
          · have h := wpO_f c64 h
            refine g_aload_n (i := 0) (x := 0) hC (dX11_looks_70) rfl rfl ?_
            refine g_iload_n (i := 1) (x := x1) hC (dX11_looks_71) rfl rfl ?_
            refine g_lload_n (i := 3) (x := r4) hC (dX11_looks_72) rfl rfl ?_
            have h := wpO_b h
            refine g_callVv ([.int x1, .long r4]) hC wvX11_362 (dX11_looks_73) rfl rfl (by omega) (Nat.le_of_ble_eq_true rfl) (cX11_tellLooks_ok (by omega) x1 r4 M37 h) (fun M73 h => ?_)
            refine g_iconst (v := 0) hC (dX11_looks_76) kc_0 ?_
            refine g_ireturn hC hr (dX11_looks_77) ?_
            exact wpO_s h
          · have h := wpO_t c64 h
            refine g_bipush (v := (-100)) hC (dX11_looks_67) kb_m100 ?_
            refine g_ireturn hC hr (dX11_looks_69) ?_
            exact wpO_s h
        · have h := wpO_f c49 h
          refine g_iconst (v := (-1)) hC (dX11_looks_52) kc_m1 ?_
          refine g_iload_n (i := 2) (x := r2) hC (dX11_looks_53) rfl rfl ?_
          refine g_isub hC (dX11_looks_54) ?_
          refine g_ireturn hC hr (dX11_looks_55) ?_
          exact wpO_s h
      · have h := wpO_f c41 h
        refine g_iload_n (i := 2) (x := r2) hC (dX11_looks_44) rfl rfl ?_
        refine g_ireturn hC hr (dX11_looks_45) ?_
        exact wpO_s h
    · have h := wpO_f c7 h
      refine g_sub (lv' := [(0, .ref 0)]) [0] rfl ?_
      exact hJ1 () h
/-! java/lang/Math.floorMod(II)I -/
theorem dJ9_floorMod_7cf53_0 : decode cJ9_floorMod_7cf53 0 = .ok (.iload_n 0, 1) := by decide +kernel
theorem dJ9_floorMod_7cf53_1 : decode cJ9_floorMod_7cf53 1 = .ok (.iload_n 1, 1) := by decide +kernel
theorem dJ9_floorMod_7cf53_2 : decode cJ9_floorMod_7cf53 2 = .ok (.irem, 1) := by decide +kernel
theorem dJ9_floorMod_7cf53_3 : decode cJ9_floorMod_7cf53 3 = .ok (.istore_n 2, 1) := by decide +kernel
theorem dJ9_floorMod_7cf53_4 : decode cJ9_floorMod_7cf53 4 = .ok (.iload_n 0, 1) := by decide +kernel
theorem dJ9_floorMod_7cf53_5 : decode cJ9_floorMod_7cf53 5 = .ok (.iload_n 1, 1) := by decide +kernel
theorem dJ9_floorMod_7cf53_6 : decode cJ9_floorMod_7cf53 6 = .ok (.ixor, 1) := by decide +kernel
theorem dJ9_floorMod_7cf53_7 : decode cJ9_floorMod_7cf53 7 = .ok (.ifCond .ge 11, 3) := by decide +kernel
theorem dJ9_floorMod_7cf53_10 : decode cJ9_floorMod_7cf53 10 = .ok (.iload_n 2, 1) := by decide +kernel
theorem dJ9_floorMod_7cf53_11 : decode cJ9_floorMod_7cf53 11 = .ok (.ifCond .eq 7, 3) := by decide +kernel
theorem dJ9_floorMod_7cf53_14 : decode cJ9_floorMod_7cf53 14 = .ok (.iload_n 2, 1) := by decide +kernel
theorem dJ9_floorMod_7cf53_15 : decode cJ9_floorMod_7cf53 15 = .ok (.iload_n 1, 1) := by decide +kernel
theorem dJ9_floorMod_7cf53_16 : decode cJ9_floorMod_7cf53 16 = .ok (.iadd, 1) := by decide +kernel
theorem dJ9_floorMod_7cf53_17 : decode cJ9_floorMod_7cf53 17 = .ok (.ireturn, 1) := by decide +kernel
theorem dJ9_floorMod_7cf53_18 : decode cJ9_floorMod_7cf53 18 = .ok (.iload_n 2, 1) := by decide +kernel
theorem dJ9_floorMod_7cf53_19 : decode cJ9_floorMod_7cf53 19 = .ok (.ireturn, 1) := by decide +kernel
def fJ9_floorMod_7cf53 (x0 : Int32) (x1 : Int32) : Option Int32 := if ¬ x1 = 0 then (
  zlet (zrem x0 x1) fun (x2_3 : Int32) =>
  if 0 ≤ (x0 ^^^ x1) then (
  some x2_3)
  else (
  if x2_3 = 0 then (
  some x2_3)
  else (
  some (x2_3 + x1)))) else none
set_option maxHeartbeats 4000000 in
theorem cJ9_floorMod_7cf53_ok {E : zE} {d : Nat} (hd : 0 ≤ d) (x0 : Int32) (x1 : Int32) (M : zM) {K : Int32 → Prop} (h : wpO (fJ9_floorMod_7cf53 x0 x1) K) : CMi E d yJ9_floorMod_7cf53 cJ9_floorMod_7cf53 3 (some .int) [.int x0, .int x1] M (fun r N => M = N ∧ K r) := by
  refine CMi.ofF (by decide +kernel) (Nat.le_of_ble_eq_true rfl) (fun Γ hC hr => ?_)
  have hC : Cx E Γ RJ9 cJ9_floorMod_7cf53 3 d := hC
  show G E Γ 3 0 [(0, .int x0), (1, .int x1)] [] M
  unfold fJ9_floorMod_7cf53 at h
  refine g_iload_n (i := 0) (x := x0) hC (dJ9_floorMod_7cf53_0) rfl rfl ?_
  refine g_iload_n (i := 1) (x := x1) hC (dJ9_floorMod_7cf53_1) rfl rfl ?_
  obtain ⟨q1, h⟩ := wpO_g h
  refine g_irem hC (dJ9_floorMod_7cf53_2) q1 ?_
  refine g_nmi (fun x2_3 e_x2_3 => ?_)
  have h := wpO_n e_x2_3 h
  refine g_istore_n (i := 2) (lv2 := [(2, .int x2_3), (0, .int x0), (1, .int x1)]) hC (dJ9_floorMod_7cf53_3) rfl (by decide) rfl ?_
  refine g_iload_n (i := 0) (x := x0) hC (dJ9_floorMod_7cf53_4) rfl rfl ?_
  refine g_iload_n (i := 1) (x := x1) hC (dJ9_floorMod_7cf53_5) rfl rfl ?_
  refine g_ixor hC (dJ9_floorMod_7cf53_6) ?_
  refine g_if_ge (tgt := 18) hC (dJ9_floorMod_7cf53_7) (by decide) (fun c7 => ?_) (fun c7 => ?_)
  · have h := wpO_t c7 h
    refine g_iload_n (i := 2) (x := x2_3) hC (dJ9_floorMod_7cf53_18) rfl rfl ?_
    refine g_ireturn hC hr (dJ9_floorMod_7cf53_19) ?_
    exact ⟨rfl, wpO_s h⟩
  · have h := wpO_f c7 h
    refine g_iload_n (i := 2) (x := x2_3) hC (dJ9_floorMod_7cf53_10) rfl rfl ?_
    refine g_if_eq (tgt := 18) hC (dJ9_floorMod_7cf53_11) (by decide) (fun c11 => ?_) (fun c11 => ?_)
    · have h := wpO_t c11 h
      refine g_iload_n (i := 2) (x := x2_3) hC (dJ9_floorMod_7cf53_18) rfl rfl ?_
      refine g_ireturn hC hr (dJ9_floorMod_7cf53_19) ?_
      exact ⟨rfl, wpO_s h⟩
    · have h := wpO_f c11 h
      refine g_iload_n (i := 2) (x := x2_3) hC (dJ9_floorMod_7cf53_14) rfl rfl ?_
      refine g_iload_n (i := 1) (x := x1) hC (dJ9_floorMod_7cf53_15) rfl rfl ?_
      refine g_iadd hC (dJ9_floorMod_7cf53_16) ?_
      refine g_ireturn hC hr (dJ9_floorMod_7cf53_17) ?_
      exact ⟨rfl, wpO_s h⟩
/-! LostByState.strays(III)I -/
theorem dX11_strays_0 : decode cX11_strays 0 = .ok (.iload_n 1, 1) := by decide +kernel
theorem dX11_strays_1 : decode cX11_strays 1 = .ok (.invokestatic 366, 3) := by decide +kernel
theorem dX11_strays_4 : decode cX11_strays 4 = .ok (.ifCond .eq 20, 3) := by decide +kernel
theorem dX11_strays_7 : decode cX11_strays 7 = .ok (.iload_n 2, 1) := by decide +kernel
theorem dX11_strays_8 : decode cX11_strays 8 = .ok (.invokestatic 366, 3) := by decide +kernel
theorem dX11_strays_11 : decode cX11_strays 11 = .ok (.ifCond .eq 13, 3) := by decide +kernel
theorem dX11_strays_14 : decode cX11_strays 14 = .ok (.iload_n 3, 1) := by decide +kernel
theorem dX11_strays_15 : decode cX11_strays 15 = .ok (.ifCond .lt 9, 3) := by decide +kernel
theorem dX11_strays_18 : decode cX11_strays 18 = .ok (.iload_n 3, 1) := by decide +kernel
theorem dX11_strays_19 : decode cX11_strays 19 = .ok (.bipush 20, 2) := by decide +kernel
theorem dX11_strays_21 : decode cX11_strays 21 = .ok (.if_icmp .le 5, 3) := by decide +kernel
theorem dX11_strays_24 : decode cX11_strays 24 = .ok (.iconst (-1), 1) := by decide +kernel
theorem dX11_strays_25 : decode cX11_strays 25 = .ok (.ireturn, 1) := by decide +kernel
theorem dX11_strays_26 : decode cX11_strays 26 = .ok (.lconst 0, 1) := by decide +kernel
theorem dX11_strays_27 : decode cX11_strays 27 = .ok (.lstore 4, 2) := by decide +kernel
theorem dX11_strays_29 : decode cX11_strays 29 = .ok (.lconst 1, 1) := by decide +kernel
theorem dX11_strays_30 : decode cX11_strays 30 = .ok (.lstore 6, 2) := by decide +kernel
theorem dX11_strays_32 : decode cX11_strays 32 = .ok (.iconst 0, 1) := by decide +kernel
theorem dX11_strays_33 : decode cX11_strays 33 = .ok (.istore 8, 2) := by decide +kernel
theorem dX11_strays_35 : decode cX11_strays 35 = .ok (.iload 8, 2) := by decide +kernel
theorem dX11_strays_37 : decode cX11_strays 37 = .ok (.iload_n 3, 1) := by decide +kernel
theorem dX11_strays_38 : decode cX11_strays 38 = .ok (.if_icmp .gt 54, 3) := by decide +kernel
theorem dX11_strays_41 : decode cX11_strays 41 = .ok (.iload_n 1, 1) := by decide +kernel
theorem dX11_strays_42 : decode cX11_strays 42 = .ok (.iload 8, 2) := by decide +kernel
theorem dX11_strays_44 : decode cX11_strays 44 = .ok (.iadd, 1) := by decide +kernel
theorem dX11_strays_45 : decode cX11_strays 45 = .ok (.iload_n 3, 1) := by decide +kernel
theorem dX11_strays_46 : decode cX11_strays 46 = .ok (.iload 8, 2) := by decide +kernel
theorem dX11_strays_48 : decode cX11_strays 48 = .ok (.isub, 1) := by decide +kernel
theorem dX11_strays_49 : decode cX11_strays 49 = .ok (.isub, 1) := by decide +kernel
theorem dX11_strays_50 : decode cX11_strays 50 = .ok (.bipush 6, 2) := by decide +kernel
theorem dX11_strays_52 : decode cX11_strays 52 = .ok (.invokestatic 369, 3) := by decide +kernel
theorem dX11_strays_55 : decode cX11_strays 55 = .ok (.istore 9, 2) := by decide +kernel
theorem dX11_strays_57 : decode cX11_strays 57 = .ok (.iload 9, 2) := by decide +kernel
theorem dX11_strays_59 : decode cX11_strays 59 = .ok (.iload_n 2, 1) := by decide +kernel
theorem dX11_strays_60 : decode cX11_strays 60 = .ok (.if_icmp .ne 10, 3) := by decide +kernel
theorem dX11_strays_63 : decode cX11_strays 63 = .ok (.lload 4, 2) := by decide +kernel
theorem dX11_strays_65 : decode cX11_strays 65 = .ok (.lload 6, 2) := by decide +kernel
theorem dX11_strays_67 : decode cX11_strays 67 = .ok (.ladd, 1) := by decide +kernel
theorem dX11_strays_68 : decode cX11_strays 68 = .ok (.lstore 4, 2) := by decide +kernel
theorem dX11_strays_70 : decode cX11_strays 70 = .ok (.lload 6, 2) := by decide +kernel
theorem dX11_strays_72 : decode cX11_strays 72 = .ok (.iload_n 3, 1) := by decide +kernel
theorem dX11_strays_73 : decode cX11_strays 73 = .ok (.iload 8, 2) := by decide +kernel
theorem dX11_strays_75 : decode cX11_strays 75 = .ok (.isub, 1) := by decide +kernel
theorem dX11_strays_76 : decode cX11_strays 76 = .ok (.i2l, 1) := by decide +kernel
theorem dX11_strays_77 : decode cX11_strays 77 = .ok (.lmul, 1) := by decide +kernel
theorem dX11_strays_78 : decode cX11_strays 78 = .ok (.iload 8, 2) := by decide +kernel
theorem dX11_strays_80 : decode cX11_strays 80 = .ok (.iconst 1, 1) := by decide +kernel
theorem dX11_strays_81 : decode cX11_strays 81 = .ok (.iadd, 1) := by decide +kernel
theorem dX11_strays_82 : decode cX11_strays 82 = .ok (.i2l, 1) := by decide +kernel
theorem dX11_strays_83 : decode cX11_strays 83 = .ok (.ldiv, 1) := by decide +kernel
theorem dX11_strays_84 : decode cX11_strays 84 = .ok (.lstore 6, 2) := by decide +kernel
theorem dX11_strays_86 : decode cX11_strays 86 = .ok (.iinc 8 1, 3) := by decide +kernel
theorem dX11_strays_89 : decode cX11_strays 89 = .ok (.goto (-54), 3) := by decide +kernel
theorem dX11_strays_92 : decode cX11_strays 92 = .ok (.aload_n 0, 1) := by decide +kernel
theorem dX11_strays_93 : decode cX11_strays 93 = .ok (.getfield 19, 3) := by decide +kernel
theorem dX11_strays_96 : decode cX11_strays 96 = .ok (.invokevirtual 230, 3) := by decide +kernel
theorem dX11_strays_99 : decode cX11_strays 99 = .ok (.aload_n 0, 1) := by decide +kernel
theorem dX11_strays_100 : decode cX11_strays 100 = .ok (.getfield 19, 3) := by decide +kernel
theorem dX11_strays_103 : decode cX11_strays 103 = .ok (.lload 4, 2) := by decide +kernel
theorem dX11_strays_105 : decode cX11_strays 105 = .ok (.lconst 1, 1) := by decide +kernel
theorem dX11_strays_106 : decode cX11_strays 106 = .ok (.iload_n 3, 1) := by decide +kernel
theorem dX11_strays_107 : decode cX11_strays 107 = .ok (.lshl, 1) := by decide +kernel
theorem dX11_strays_108 : decode cX11_strays 108 = .ok (.invokevirtual 372, 3) := by decide +kernel
theorem dX11_strays_111 : decode cX11_strays 111 = .ok (.iconst 0, 1) := by decide +kernel
theorem dX11_strays_112 : decode cX11_strays 112 = .ok (.ireturn, 1) := by decide +kernel
def fX11_strays_L35 (x1 : Int32) (x2 : Int32) (x3 : Int32) (M : zM) : Nat → Int64 → Int64 → Int32 → Option Int64
  | 0, _, _, _ => none
  | n + 1, x4, x6, x8 => if x3 < x8 then (
    some x4)
    else (
    (fJ9_floorMod_7cf53 ((x1 + x8) - (x3 - x8)) 6).bind fun (r3 : Int32) =>
    zlet (if r3 = x2 then (
    zlet (x4 + x6) fun (x4_68 : Int64) =>
    x4_68)
    else (
    x4)) fun (x4_70 : Int64) =>
    if ¬ ((x8 + 1).toInt64) = 0 then (
    zlet ((x6 * ((x3 - x8).toInt64)) / ((x8 + 1).toInt64)) fun (x6_84 : Int64) =>
    fX11_strays_L35 x1 x2 x3 M n x4_70 x6_84 (x8 + 1)) else none)
def fX11_strays (x1 : Int32) (x2 : Int32) (x3 : Int32) (M : zM) : Option (Int32 × zM) := if (fX11_isPlace x1) = 0 then (
  some ((-1), M))
  else (
  if (fX11_isPlace x2) = 0 then (
  some ((-1), M))
  else (
  if x3 < 0 then (
  some ((-1), M))
  else (
  if x3 ≤ 20 then (
  (fX11_strays_L35 x1 x2 x3 M 4000 0 1 0).bind fun (x4_92 : Int64) =>
  zlet (fX3_begin M) fun (M96 : zM) =>
  (fX3_tellFraction x4_92 (zlshl 1 x3) M96).bind fun (M108 : zM) =>
  some (0, M108))
  else (
  some ((-1), M)))))
set_option maxHeartbeats 4000000 in
theorem lX11_strays_35 {E : zE} {Γ : zT} {d : Nat} {K1 : Int64 → Prop} (hC : Cx E Γ RX11 cX11_strays 10 d) (hd : 2 ≤ d) (x1 : Int32) (x2 : Int32) (x3 : Int32) (M : zM) (hx : ∀ (x4_92 : Int64), K1 x4_92 → G E Γ 10 92 [(0, .ref 0), (3, .int x3), (4, .long x4_92)] [] M) :
    ∀ (n : Nat) (x4 : Int64) (x6 : Int64) (x8 : Int32), wpO (fX11_strays_L35 x1 x2 x3 M n x4 x6 x8) K1 → G E Γ 10 35 [(0, .ref 0), (1, .int x1), (2, .int x2), (3, .int x3), (4, .long x4), (6, .long x6), (8, .int x8)] [] M := by
  intro n
  induction n with
  | zero =>
    intro x4 x6 x8 h
    exact (wpO_0 h).elim
  | succ n ih =>
    intro x4 x6 x8 h
    rw [fX11_strays_L35.eq_2] at h
    refine g_iload (i := 8) (x := x8) hC (dX11_strays_35) rfl ?_
    refine g_iload_n (i := 3) (x := x3) hC (dX11_strays_37) rfl rfl ?_
    refine g_icmp_gt (tgt := 92) hC (dX11_strays_38) (by decide) (fun c38 => ?_) (fun c38 => ?_)
    · have h := wpO_t c38 h
      refine g_sub (lv' := [(0, .ref 0), (3, .int x3), (4, .long x4)]) [0, 3, 4] rfl ?_
      exact hx _ (wpO_s h)
    · have h := wpO_f c38 h
      refine g_iload_n (i := 1) (x := x1) hC (dX11_strays_41) rfl rfl ?_
      refine g_iload (i := 8) (x := x8) hC (dX11_strays_42) rfl ?_
      refine g_iadd hC (dX11_strays_44) ?_
      refine g_iload_n (i := 3) (x := x3) hC (dX11_strays_45) rfl rfl ?_
      refine g_iload (i := 8) (x := x8) hC (dX11_strays_46) rfl ?_
      refine g_isub hC (dX11_strays_48) ?_
      refine g_isub hC (dX11_strays_49) ?_
      refine g_bipush (v := 6) hC (dX11_strays_50) kb_6 ?_
      have h := wpO_b h
      refine g_callSi ([.int ((x1 + x8) - (x3 - x8)), .int 6]) hC wsX11_369 (dX11_strays_52) rfl (by omega) (Nat.le_of_ble_eq_true rfl) (cJ9_floorMod_7cf53_ok (by omega) ((x1 + x8) - (x3 - x8)) 6 M h) (fun r3 N q => ?_)
      obtain ⟨rfl, h⟩ := q
      refine g_istore (i := 9) (lv2 := [(9, .int r3), (0, .ref 0), (1, .int x1), (2, .int x2), (3, .int x3), (4, .long x4), (6, .long x6), (8, .int x8)]) hC (dX11_strays_55) (by decide) rfl ?_
      refine g_iload (i := 9) (x := r3) hC (dX11_strays_57) rfl ?_
      refine g_iload_n (i := 2) (x := x2) hC (dX11_strays_59) rfl rfl ?_
      obtain ⟨x4_70, e_x4_70, h⟩ := wpO_l h
      have hJ4 : G E Γ 10 70 [(0, .ref 0), (1, .int x1), (2, .int x2), (3, .int x3), (4, .long x4_70), (6, .long x6), (8, .int x8)] [] M := by
        refine g_lload (i := 6) (x := x6) hC (dX11_strays_70) rfl ?_
        refine g_iload_n (i := 3) (x := x3) hC (dX11_strays_72) rfl rfl ?_
        refine g_iload (i := 8) (x := x8) hC (dX11_strays_73) rfl ?_
        refine g_isub hC (dX11_strays_75) ?_
        refine g_i2l hC (dX11_strays_76) ?_
        refine g_lmul hC (dX11_strays_77) ?_
        refine g_iload (i := 8) (x := x8) hC (dX11_strays_78) rfl ?_
        refine g_iconst (v := 1) hC (dX11_strays_80) kc_1 ?_
        refine g_iadd hC (dX11_strays_81) ?_
        refine g_i2l hC (dX11_strays_82) ?_
        obtain ⟨q5, h⟩ := wpO_g h
        refine g_ldiv hC (dX11_strays_83) q5 ?_
        refine g_nml (fun x6_84 e_x6_84 => ?_)
        have h := wpO_n e_x6_84 h
        refine g_lstore (i := 6) (lv2 := [(6, .long x6_84), (0, .ref 0), (1, .int x1), (2, .int x2), (3, .int x3), (4, .long x4_70), (8, .int x8)]) hC (dX11_strays_84) (by decide) rfl ?_
        refine g_iinc (x := x8) (v := (x8 + 1)) (lv2 := [(8, .int (x8 + 1)), (6, .long x6_84), (0, .ref 0), (1, .int x1), (2, .int x2), (3, .int x3), (4, .long x4_70)]) hC (dX11_strays_86) rfl rfl (by decide) rfl ?_
        refine g_goto (tgt := 35) hC (dX11_strays_89) (by decide) ?_
        refine g_sub (lv' := [(0, .ref 0), (1, .int x1), (2, .int x2), (3, .int x3), (4, .long x4_70), (6, .long x6_84), (8, .int (x8 + 1))]) [2, 3, 4, 5, 6, 1, 0] rfl ?_
        exact ih _ _ _ h
      refine g_icmp_ne (tgt := 70) hC (dX11_strays_60) (by decide) (fun c60 => ?_) (fun c60 => ?_)
      · rw [if_neg c60] at e_x4_70
        refine g_sub (lv' := [(0, .ref 0), (1, .int x1), (2, .int x2), (3, .int x3), (4, .long x4), (6, .long x6), (8, .int x8)]) [1, 2, 3, 4, 5, 6, 7] rfl ?_
        subst e_x4_70
        exact hJ4
      · rw [if_pos c60] at e_x4_70
        refine g_lload (i := 4) (x := x4) hC (dX11_strays_63) rfl ?_
        refine g_lload (i := 6) (x := x6) hC (dX11_strays_65) rfl ?_
        refine g_ladd hC (dX11_strays_67) ?_
        refine g_nml (fun x4_68 e_x4_68 => ?_)
        have e_x4_70 := zle e_x4_68 e_x4_70
        refine g_lstore (i := 4) (lv2 := [(4, .long x4_68), (9, .int r3), (0, .ref 0), (1, .int x1), (2, .int x2), (3, .int x3), (6, .long x6), (8, .int x8)]) hC (dX11_strays_68) (by decide) rfl ?_
        refine g_sub (lv' := [(0, .ref 0), (1, .int x1), (2, .int x2), (3, .int x3), (4, .long x4_68), (6, .long x6), (8, .int x8)]) [2, 3, 4, 5, 0, 6, 7] rfl ?_
        subst e_x4_70
        exact hJ4
set_option maxHeartbeats 4000000 in
theorem cX11_strays_ok {E : zE} {d : Nat} (hd : 2 ≤ d) (x1 : Int32) (x2 : Int32) (x3 : Int32) (M : zM) {K : (Int32 × zM) → Prop} (h : wpO (fX11_strays x1 x2 x3 M) K) : CMi E d yX11_strays cX11_strays 10 (some .int) [.ref 0, .int x1, .int x2, .int x3] M (fun r N => K (r, N)) := by
  refine CMi.of (by decide) (Nat.le_of_ble_eq_true rfl) (fun Γ hC hr => ?_)
  have hC : Cx E Γ RX11 cX11_strays 10 d := hC
  show G E Γ 10 0 [(0, .ref 0), (1, .int x1), (2, .int x2), (3, .int x3)] [] M
  unfold fX11_strays at h
  refine g_iload_n (i := 1) (x := x1) hC (dX11_strays_0) rfl rfl ?_
  refine g_callSi ([.int x1]) hC wsX11_366 (dX11_strays_1) rfl (by omega) (Nat.le_of_ble_eq_true rfl) (cX11_isPlace_ok (by omega) x1 M (K := fun r => r = fX11_isPlace x1) rfl) (fun r N q => ?_)
  obtain ⟨rfl, rfl⟩ := q
  refine g_if_eq (tgt := 24) hC (dX11_strays_4) (by decide) (fun c4 => ?_) (fun c4 => ?_)
  · have h := wpO_t c4 h
    refine g_iconst (v := (-1)) hC (dX11_strays_24) kc_m1 ?_
    refine g_ireturn hC hr (dX11_strays_25) ?_
    exact wpO_s h
  · have h := wpO_f c4 h
    refine g_iload_n (i := 2) (x := x2) hC (dX11_strays_7) rfl rfl ?_
    refine g_callSi ([.int x2]) hC wsX11_366 (dX11_strays_8) rfl (by omega) (Nat.le_of_ble_eq_true rfl) (cX11_isPlace_ok (by omega) x2 M (K := fun r => r = fX11_isPlace x2) rfl) (fun r N q => ?_)
    obtain ⟨rfl, rfl⟩ := q
    refine g_if_eq (tgt := 24) hC (dX11_strays_11) (by decide) (fun c11 => ?_) (fun c11 => ?_)
    · have h := wpO_t c11 h
      refine g_iconst (v := (-1)) hC (dX11_strays_24) kc_m1 ?_
      refine g_ireturn hC hr (dX11_strays_25) ?_
      exact wpO_s h
    · have h := wpO_f c11 h
      refine g_iload_n (i := 3) (x := x3) hC (dX11_strays_14) rfl rfl ?_
      refine g_if_lt (tgt := 24) hC (dX11_strays_15) (by decide) (fun c15 => ?_) (fun c15 => ?_)
      · have h := wpO_t c15 h
        refine g_iconst (v := (-1)) hC (dX11_strays_24) kc_m1 ?_
        refine g_ireturn hC hr (dX11_strays_25) ?_
        exact wpO_s h
      · have h := wpO_f c15 h
        refine g_iload_n (i := 3) (x := x3) hC (dX11_strays_18) rfl rfl ?_
        refine g_bipush (v := 20) hC (dX11_strays_19) kb_20 ?_
        refine g_icmp_le (tgt := 26) hC (dX11_strays_21) (by decide) (fun c21 => ?_) (fun c21 => ?_)
        · have h := wpO_t c21 h
          refine g_lconst (v := 0) hC (dX11_strays_26) kl_0 ?_
          refine g_lstore (i := 4) (lv2 := [(4, .long 0), (0, .ref 0), (1, .int x1), (2, .int x2), (3, .int x3)]) hC (dX11_strays_27) (by decide) rfl ?_
          refine g_lconst (v := 1) hC (dX11_strays_29) kl_1 ?_
          refine g_lstore (i := 6) (lv2 := [(6, .long 1), (4, .long 0), (0, .ref 0), (1, .int x1), (2, .int x2), (3, .int x3)]) hC (dX11_strays_30) (by decide) rfl ?_
          refine g_iconst (v := 0) hC (dX11_strays_32) kc_0 ?_
          refine g_istore (i := 8) (lv2 := [(8, .int 0), (6, .long 1), (4, .long 0), (0, .ref 0), (1, .int x1), (2, .int x2), (3, .int x3)]) hC (dX11_strays_33) (by decide) rfl ?_
          refine g_sub (lv' := [(0, .ref 0), (1, .int x1), (2, .int x2), (3, .int x3), (4, .long 0), (6, .long 1), (8, .int 0)]) [3, 4, 5, 6, 2, 1, 0] rfl ?_
          refine wpO_bJ h (fun KL35 hKL35 h => ?_)
          refine lX11_strays_35 (K1 := KL35) hC (by omega) x1 x2 x3 M (fun x4_92 h => ?_) _ _ _ _ h
          have h := hKL35 _ h
          refine g_aload_n (i := 0) (x := 0) hC (dX11_strays_92) rfl rfl ?_
          refine g_getR (r := 3) hC flX11_19 (dX11_strays_93) rfl rfl rfl ?_
          refine g_callVv ([]) hC wvX11_230 (dX11_strays_96) rfl rfl (by omega) (Nat.le_of_ble_eq_true rfl) (cX3_begin_ok (by omega) M (K := fun r => r = fX3_begin M) rfl) (fun N q => ?_)
          subst q
          refine g_nmM (fun M96 e_M96 => ?_)
          have h := wpO_n e_M96 h
          refine g_aload_n (i := 0) (x := 0) hC (dX11_strays_99) rfl rfl ?_
          refine g_getR (r := 3) hC flX11_19 (dX11_strays_100) rfl rfl rfl ?_
          refine g_lload (i := 4) (x := x4_92) hC (dX11_strays_103) rfl ?_
          refine g_lconst (v := 1) hC (dX11_strays_105) kl_1 ?_
          refine g_iload_n (i := 3) (x := x3) hC (dX11_strays_106) rfl rfl ?_
          refine g_lshl hC (dX11_strays_107) ?_
          have h := wpO_b h
          refine g_callVv ([.long x4_92, .long (zlshl 1 x3)]) hC wvX11_372 (dX11_strays_108) rfl rfl (by omega) (Nat.le_of_ble_eq_true rfl) (cX3_tellFraction_ok (by omega) x4_92 (zlshl 1 x3) M96 h) (fun M108 h => ?_)
          refine g_iconst (v := 0) hC (dX11_strays_111) kc_0 ?_
          refine g_ireturn hC hr (dX11_strays_112) ?_
          exact wpO_s h
        · have h := wpO_f c21 h
          refine g_iconst (v := (-1)) hC (dX11_strays_24) kc_m1 ?_
          refine g_ireturn hC hr (dX11_strays_25) ?_
          exact wpO_s h
/-! LostByState.can()I -/
theorem dX11_can_0 : decode cX11_can 0 = .ok (.aload_n 0, 1) := by decide +kernel
theorem dX11_can_1 : decode cX11_can 1 = .ok (.getfield 33, 3) := by decide +kernel
theorem dX11_can_4 : decode cX11_can 4 = .ok (.bipush 6, 2) := by decide +kernel
theorem dX11_can_6 : decode cX11_can 6 = .ok (.invokevirtual 204, 3) := by decide +kernel
theorem dX11_can_9 : decode cX11_can 9 = .ok (.istore_n 1, 1) := by decide +kernel
theorem dX11_can_10 : decode cX11_can 10 = .ok (.aload_n 0, 1) := by decide +kernel
theorem dX11_can_11 : decode cX11_can 11 = .ok (.getfield 26, 3) := by decide +kernel
theorem dX11_can_14 : decode cX11_can 14 = .ok (.iload_n 1, 1) := by decide +kernel
theorem dX11_can_15 : decode cX11_can 15 = .ok (.invokevirtual 237, 3) := by decide +kernel
theorem dX11_can_18 : decode cX11_can 18 = .ok (.istore_n 2, 1) := by decide +kernel
theorem dX11_can_19 : decode cX11_can 19 = .ok (.aload_n 0, 1) := by decide +kernel
theorem dX11_can_20 : decode cX11_can 20 = .ok (.getfield 19, 3) := by decide +kernel
theorem dX11_can_23 : decode cX11_can 23 = .ok (.invokevirtual 230, 3) := by decide +kernel
theorem dX11_can_26 : decode cX11_can 26 = .ok (.aload_n 0, 1) := by decide +kernel
theorem dX11_can_27 : decode cX11_can 27 = .ok (.getfield 19, 3) := by decide +kernel
theorem dX11_can_30 : decode cX11_can 30 = .ok (.iload_n 2, 1) := by decide +kernel
theorem dX11_can_31 : decode cX11_can 31 = .ok (.invokestatic 240, 3) := by decide +kernel
theorem dX11_can_34 : decode cX11_can 34 = .ok (.i2l, 1) := by decide +kernel
theorem dX11_can_35 : decode cX11_can 35 = .ok (.invokevirtual 233, 3) := by decide +kernel
theorem dX11_can_38 : decode cX11_can 38 = .ok (.aload_n 0, 1) := by decide +kernel
theorem dX11_can_39 : decode cX11_can 39 = .ok (.getfield 19, 3) := by decide +kernel
theorem dX11_can_42 : decode cX11_can 42 = .ok (.aload_n 0, 1) := by decide +kernel
theorem dX11_can_43 : decode cX11_can 43 = .ok (.getfield 26, 3) := by decide +kernel
theorem dX11_can_46 : decode cX11_can 46 = .ok (.invokevirtual 376, 3) := by decide +kernel
theorem dX11_can_49 : decode cX11_can 49 = .ok (.iload_n 1, 1) := by decide +kernel
theorem dX11_can_50 : decode cX11_can 50 = .ok (.iconst (-1), 1) := by decide +kernel
theorem dX11_can_51 : decode cX11_can 51 = .ok (.ixor, 1) := by decide +kernel
theorem dX11_can_52 : decode cX11_can 52 = .ok (.iand, 1) := by decide +kernel
theorem dX11_can_53 : decode cX11_can 53 = .ok (.i2l, 1) := by decide +kernel
theorem dX11_can_54 : decode cX11_can 54 = .ok (.invokevirtual 233, 3) := by decide +kernel
theorem dX11_can_57 : decode cX11_can 57 = .ok (.iload_n 2, 1) := by decide +kernel
theorem dX11_can_58 : decode cX11_can 58 = .ok (.ireturn, 1) := by decide +kernel
def fX11_can  (M : zM) : Option (Int32 × zM) := (fX10_heldBy 60 6 M).bind fun (r1 : Int32) =>
  (fX7_doableWith r1 M).bind fun (r2 : Int32) =>
  zlet (fX3_begin M) fun (M23 : zM) =>
  (fX3_tell ((fJ6_bitCount_0f7a4 r2).toInt64) M23).bind fun (M35 : zM) =>
  (fX7_allNeeds M35).bind fun (r6 : Int32) =>
  (fX3_tell ((r6 &&& (r1 ^^^ (-1))).toInt64) M35).bind fun (M54 : zM) =>
  some (r2, M54)
set_option maxHeartbeats 4000000 in
theorem cX11_can_ok {E : zE} {d : Nat} (hd : 1 ≤ d)  (M : zM) {K : (Int32 × zM) → Prop} (h : wpO (fX11_can  M) K) : CMi E d yX11_can cX11_can 3 (some .int) [.ref 0] M (fun r N => K (r, N)) := by
  refine CMi.of (by decide) (Nat.le_of_ble_eq_true rfl) (fun Γ hC hr => ?_)
  have hC : Cx E Γ RX11 cX11_can 3 d := hC
  show G E Γ 3 0 [(0, .ref 0)] [] M
  unfold fX11_can at h
  refine g_aload_n (i := 0) (x := 0) hC (dX11_can_0) rfl rfl ?_
  refine g_getR (r := 60) hC flX11_33 (dX11_can_1) rfl rfl rfl ?_
  refine g_bipush (v := 6) hC (dX11_can_4) kb_6 ?_
  have h := wpO_b h
  refine g_callVi ([.int 6]) hC wvX11_204 (dX11_can_6) rfl rfl (by omega) (Nat.le_of_ble_eq_true rfl) (cX10_heldBy_ok (by omega) 60 6 M h) (fun r1 N q => ?_)
  obtain ⟨rfl, h⟩ := q
  refine g_istore_n (i := 1) (lv2 := [(1, .int r1), (0, .ref 0)]) hC (dX11_can_9) rfl (by decide) rfl ?_
  refine g_aload_n (i := 0) (x := 0) hC (dX11_can_10) rfl rfl ?_
  refine g_getR (r := 5) hC flX11_26 (dX11_can_11) rfl rfl rfl ?_
  refine g_iload_n (i := 1) (x := r1) hC (dX11_can_14) rfl rfl ?_
  have h := wpO_b h
  refine g_callVi ([.int r1]) hC wvX11_237 (dX11_can_15) rfl rfl (by omega) (Nat.le_of_ble_eq_true rfl) (cX7_doableWith_ok (by omega) r1 M h) (fun r2 N q => ?_)
  obtain ⟨rfl, h⟩ := q
  refine g_istore_n (i := 2) (lv2 := [(2, .int r2), (1, .int r1), (0, .ref 0)]) hC (dX11_can_18) rfl (by decide) rfl ?_
  refine g_aload_n (i := 0) (x := 0) hC (dX11_can_19) rfl rfl ?_
  refine g_getR (r := 3) hC flX11_19 (dX11_can_20) rfl rfl rfl ?_
  refine g_callVv ([]) hC wvX11_230 (dX11_can_23) rfl rfl (by omega) (Nat.le_of_ble_eq_true rfl) (cX3_begin_ok (by omega) M (K := fun r => r = fX3_begin M) rfl) (fun N q => ?_)
  subst q
  refine g_nmM (fun M23 e_M23 => ?_)
  have h := wpO_n e_M23 h
  refine g_aload_n (i := 0) (x := 0) hC (dX11_can_26) rfl rfl ?_
  refine g_getR (r := 3) hC flX11_19 (dX11_can_27) rfl rfl rfl ?_
  refine g_iload_n (i := 2) (x := r2) hC (dX11_can_30) rfl rfl ?_
  refine g_callSi ([.int r2]) hC wsX11_240 (dX11_can_31) rfl (by omega) (Nat.le_of_ble_eq_true rfl) (cJ6_bitCount_0f7a4_ok (by omega) r2 M23 (K := fun r => r = fJ6_bitCount_0f7a4 r2) rfl) (fun r N q => ?_)
  obtain ⟨rfl, rfl⟩ := q
  refine g_i2l hC (dX11_can_34) ?_
  have h := wpO_b h
  refine g_callVv ([.long ((fJ6_bitCount_0f7a4 r2).toInt64)]) hC wvX11_233 (dX11_can_35) rfl rfl (by omega) (Nat.le_of_ble_eq_true rfl) (cX3_tell_ok (by omega) ((fJ6_bitCount_0f7a4 r2).toInt64) M23 h) (fun M35 h => ?_)
  refine g_aload_n (i := 0) (x := 0) hC (dX11_can_38) rfl rfl ?_
  refine g_getR (r := 3) hC flX11_19 (dX11_can_39) rfl rfl rfl ?_
  refine g_aload_n (i := 0) (x := 0) hC (dX11_can_42) rfl rfl ?_
  refine g_getR (r := 5) hC flX11_26 (dX11_can_43) rfl rfl rfl ?_
  have h := wpO_b h
  refine g_callVi ([]) hC wvX11_376 (dX11_can_46) rfl rfl (by omega) (Nat.le_of_ble_eq_true rfl) (cX7_allNeeds_ok (by omega) M35 h) (fun r6 N q => ?_)
  obtain ⟨rfl, h⟩ := q
  refine g_iload_n (i := 1) (x := r1) hC (dX11_can_49) rfl rfl ?_
  refine g_iconst (v := (-1)) hC (dX11_can_50) kc_m1 ?_
  refine g_ixor hC (dX11_can_51) ?_
  refine g_iand hC (dX11_can_52) ?_
  refine g_i2l hC (dX11_can_53) ?_
  have h := wpO_b h
  refine g_callVv ([.long ((r6 &&& (r1 ^^^ (-1))).toInt64)]) hC wvX11_233 (dX11_can_54) rfl rfl (by omega) (Nat.le_of_ble_eq_true rfl) (cX3_tell_ok (by omega) ((r6 &&& (r1 ^^^ (-1))).toInt64) M35 h) (fun M54 h => ?_)
  refine g_iload_n (i := 2) (x := r2) hC (dX11_can_57) rfl rfl ?_
  refine g_ireturn hC hr (dX11_can_58) ?_
  exact wpO_s h
/-! LostByState.with(I)I -/
theorem dX11_with_0 : decode cX11_with 0 = .ok (.iload_n 1, 1) := by decide +kernel
theorem dX11_with_1 : decode cX11_with 1 = .ok (.ifCond .lt 9, 3) := by decide +kernel
theorem dX11_with_4 : decode cX11_with 4 = .ok (.iload_n 1, 1) := by decide +kernel
theorem dX11_with_5 : decode cX11_with 5 = .ok (.bipush 8, 2) := by decide +kernel
theorem dX11_with_7 : decode cX11_with 7 = .ok (.if_icmp .le 5, 3) := by decide +kernel
theorem dX11_with_10 : decode cX11_with 10 = .ok (.iconst (-1), 1) := by decide +kernel
theorem dX11_with_11 : decode cX11_with 11 = .ok (.ireturn, 1) := by decide +kernel
theorem dX11_with_12 : decode cX11_with 12 = .ok (.aload_n 0, 1) := by decide +kernel
theorem dX11_with_13 : decode cX11_with 13 = .ok (.getfield 33, 3) := by decide +kernel
theorem dX11_with_16 : decode cX11_with 16 = .ok (.bipush 6, 2) := by decide +kernel
theorem dX11_with_18 : decode cX11_with 18 = .ok (.invokevirtual 204, 3) := by decide +kernel
theorem dX11_with_21 : decode cX11_with 21 = .ok (.istore_n 2, 1) := by decide +kernel
theorem dX11_with_22 : decode cX11_with 22 = .ok (.iconst 1, 1) := by decide +kernel
theorem dX11_with_23 : decode cX11_with 23 = .ok (.aload_n 0, 1) := by decide +kernel
theorem dX11_with_24 : decode cX11_with 24 = .ok (.getfield 26, 3) := by decide +kernel
theorem dX11_with_27 : decode cX11_with 27 = .ok (.getfield 135, 3) := by decide +kernel
theorem dX11_with_30 : decode cX11_with 30 = .ok (.ishl, 1) := by decide +kernel
theorem dX11_with_31 : decode cX11_with 31 = .ok (.iconst 1, 1) := by decide +kernel
theorem dX11_with_32 : decode cX11_with 32 = .ok (.isub, 1) := by decide +kernel
theorem dX11_with_33 : decode cX11_with 33 = .ok (.iload_n 2, 1) := by decide +kernel
theorem dX11_with_34 : decode cX11_with 34 = .ok (.iconst (-1), 1) := by decide +kernel
theorem dX11_with_35 : decode cX11_with 35 = .ok (.ixor, 1) := by decide +kernel
theorem dX11_with_36 : decode cX11_with 36 = .ok (.iand, 1) := by decide +kernel
theorem dX11_with_37 : decode cX11_with 37 = .ok (.istore_n 3, 1) := by decide +kernel
theorem dX11_with_38 : decode cX11_with 38 = .ok (.iconst (-1), 1) := by decide +kernel
theorem dX11_with_39 : decode cX11_with 39 = .ok (.istore 4, 2) := by decide +kernel
theorem dX11_with_41 : decode cX11_with 41 = .ok (.iconst 0, 1) := by decide +kernel
theorem dX11_with_42 : decode cX11_with 42 = .ok (.istore 5, 2) := by decide +kernel
theorem dX11_with_44 : decode cX11_with 44 = .ok (.iconst 0, 1) := by decide +kernel
theorem dX11_with_45 : decode cX11_with 45 = .ok (.istore 6, 2) := by decide +kernel
theorem dX11_with_47 : decode cX11_with 47 = .ok (.iload 6, 2) := by decide +kernel
theorem dX11_with_49 : decode cX11_with 49 = .ok (.iload_n 3, 1) := by decide +kernel
theorem dX11_with_50 : decode cX11_with 50 = .ok (.if_icmp .gt 93, 3) := by decide +kernel
theorem dX11_with_53 : decode cX11_with 53 = .ok (.iload 6, 2) := by decide +kernel
theorem dX11_with_55 : decode cX11_with 55 = .ok (.iload_n 3, 1) := by decide +kernel
theorem dX11_with_56 : decode cX11_with 56 = .ok (.iconst (-1), 1) := by decide +kernel
theorem dX11_with_57 : decode cX11_with 57 = .ok (.ixor, 1) := by decide +kernel
theorem dX11_with_58 : decode cX11_with 58 = .ok (.iand, 1) := by decide +kernel
theorem dX11_with_59 : decode cX11_with 59 = .ok (.ifCond .ne 78, 3) := by decide +kernel
theorem dX11_with_62 : decode cX11_with 62 = .ok (.iload 6, 2) := by decide +kernel
theorem dX11_with_64 : decode cX11_with 64 = .ok (.invokestatic 240, 3) := by decide +kernel
theorem dX11_with_67 : decode cX11_with 67 = .ok (.iload_n 1, 1) := by decide +kernel
theorem dX11_with_68 : decode cX11_with 68 = .ok (.if_icmp .le 6, 3) := by decide +kernel
theorem dX11_with_71 : decode cX11_with 71 = .ok (.goto 66, 3) := by decide +kernel
theorem dX11_with_74 : decode cX11_with 74 = .ok (.aload_n 0, 1) := by decide +kernel
theorem dX11_with_75 : decode cX11_with 75 = .ok (.getfield 26, 3) := by decide +kernel
theorem dX11_with_78 : decode cX11_with 78 = .ok (.iload_n 2, 1) := by decide +kernel
theorem dX11_with_79 : decode cX11_with 79 = .ok (.iload 6, 2) := by decide +kernel
theorem dX11_with_81 : decode cX11_with 81 = .ok (.ior, 1) := by decide +kernel
theorem dX11_with_82 : decode cX11_with 82 = .ok (.invokevirtual 237, 3) := by decide +kernel
theorem dX11_with_85 : decode cX11_with 85 = .ok (.invokestatic 240, 3) := by decide +kernel
theorem dX11_with_88 : decode cX11_with 88 = .ok (.istore 7, 2) := by decide +kernel
theorem dX11_with_90 : decode cX11_with 90 = .ok (.iload 6, 2) := by decide +kernel
theorem dX11_with_92 : decode cX11_with 92 = .ok (.invokestatic 240, 3) := by decide +kernel
theorem dX11_with_95 : decode cX11_with 95 = .ok (.iload 5, 2) := by decide +kernel
theorem dX11_with_97 : decode cX11_with 97 = .ok (.invokestatic 240, 3) := by decide +kernel
theorem dX11_with_100 : decode cX11_with 100 = .ok (.if_icmp .ge 7, 3) := by decide +kernel
theorem dX11_with_103 : decode cX11_with 103 = .ok (.iconst 1, 1) := by decide +kernel
theorem dX11_with_104 : decode cX11_with 104 = .ok (.goto 4, 3) := by decide +kernel
theorem dX11_with_107 : decode cX11_with 107 = .ok (.iconst 0, 1) := by decide +kernel
theorem dX11_with_108 : decode cX11_with 108 = .ok (.istore 8, 2) := by decide +kernel
theorem dX11_with_110 : decode cX11_with 110 = .ok (.iload 7, 2) := by decide +kernel
theorem dX11_with_112 : decode cX11_with 112 = .ok (.iload 4, 2) := by decide +kernel
theorem dX11_with_114 : decode cX11_with 114 = .ok (.if_icmp .gt 15, 3) := by decide +kernel
theorem dX11_with_117 : decode cX11_with 117 = .ok (.iload 7, 2) := by decide +kernel
theorem dX11_with_119 : decode cX11_with 119 = .ok (.iload 4, 2) := by decide +kernel
theorem dX11_with_121 : decode cX11_with 121 = .ok (.if_icmp .ne 16, 3) := by decide +kernel
theorem dX11_with_124 : decode cX11_with 124 = .ok (.iload 8, 2) := by decide +kernel
theorem dX11_with_126 : decode cX11_with 126 = .ok (.ifCond .eq 11, 3) := by decide +kernel
theorem dX11_with_129 : decode cX11_with 129 = .ok (.iload 7, 2) := by decide +kernel
theorem dX11_with_131 : decode cX11_with 131 = .ok (.istore 4, 2) := by decide +kernel
theorem dX11_with_133 : decode cX11_with 133 = .ok (.iload 6, 2) := by decide +kernel
theorem dX11_with_135 : decode cX11_with 135 = .ok (.istore 5, 2) := by decide +kernel
theorem dX11_with_137 : decode cX11_with 137 = .ok (.iinc 6 1, 3) := by decide +kernel
theorem dX11_with_140 : decode cX11_with 140 = .ok (.goto (-93), 3) := by decide +kernel
theorem dX11_with_143 : decode cX11_with 143 = .ok (.aload_n 0, 1) := by decide +kernel
theorem dX11_with_144 : decode cX11_with 144 = .ok (.getfield 19, 3) := by decide +kernel
theorem dX11_with_147 : decode cX11_with 147 = .ok (.invokevirtual 230, 3) := by decide +kernel
theorem dX11_with_150 : decode cX11_with 150 = .ok (.aload_n 0, 1) := by decide +kernel
theorem dX11_with_151 : decode cX11_with 151 = .ok (.getfield 19, 3) := by decide +kernel
theorem dX11_with_154 : decode cX11_with 154 = .ok (.iload 5, 2) := by decide +kernel
theorem dX11_with_156 : decode cX11_with 156 = .ok (.i2l, 1) := by decide +kernel
theorem dX11_with_157 : decode cX11_with 157 = .ok (.invokevirtual 233, 3) := by decide +kernel
theorem dX11_with_160 : decode cX11_with 160 = .ok (.iload 4, 2) := by decide +kernel
theorem dX11_with_162 : decode cX11_with 162 = .ok (.ireturn, 1) := by decide +kernel
def fX11_with_L47 (x1 : Int32) (x2 : Int32) (x3 : Int32) (M : zM) : Nat → Int32 → Int32 → Int32 → Option (Int32 × Int32)
  | 0, _, _, _ => none
  | n + 1, x4, x5, x6 => if x3 < x6 then (
    some (x4, x5))
    else (
    (if (x6 &&& (x3 ^^^ (-1))) = 0 then (
    if (fJ6_bitCount_0f7a4 x6) ≤ x1 then (
    (fX7_doableWith (x2 ||| x6) M).bind fun (r4 : Int32) =>
    zlet (fJ6_bitCount_0f7a4 r4) fun (x7_88 : Int32) =>
    zlet (if (fJ6_bitCount_0f7a4 x5) ≤ (fJ6_bitCount_0f7a4 x6) then (
    0)
    else (
    1)) fun (s0_108 : Int32) =>
    zj (fun (_ : Unit) =>
    some (x7_88, x6))
    fun J9 =>
    if x4 < x7_88 then (
    J9 ())
    else (
    if x7_88 = x4 then (
    if s0_108 = 0 then (
    some (x4, x5))
    else (
    J9 ()))
    else (
    some (x4, x5))))
    else (
    some (x4, x5)))
    else (
    some (x4, x5)) : Option (Int32 × Int32)).bind fun (q : Int32 × Int32) => zp q fun x4_137 x5_137 =>
    fX11_with_L47 x1 x2 x3 M n x4_137 x5_137 (x6 + 1))
def fX11_with (x1 : Int32) (M : zM) : Option (Int32 × zM) := if x1 < 0 then (
  some ((-1), M))
  else (
  if x1 ≤ 8 then (
  (fX10_heldBy 60 6 M).bind fun (r1 : Int32) =>
  zlet (((zshl 1 (M.1 5 3)) - 1) &&& (r1 ^^^ (-1))) fun (x3_37 : Int32) =>
  (fX11_with_L47 x1 r1 x3_37 M 4000 (-1) 0 0).bind fun (q : Int32 × Int32) => zp q fun x4_143 x5_143 =>
  zlet (fX3_begin M) fun (M147 : zM) =>
  (fX3_tell x5_143.toInt64 M147).bind fun (M157 : zM) =>
  some (x4_143, M157))
  else (
  some ((-1), M)))
set_option maxHeartbeats 4000000 in
theorem lX11_with_47 {E : zE} {Γ : zT} {d : Nat} {K1 : (Int32 × Int32) → Prop} (hC : Cx E Γ RX11 cX11_with 9 d) (hd : 1 ≤ d) (x1 : Int32) (x2 : Int32) (x3 : Int32) (M : zM) (hx : ∀ (x4_143 : Int32) (x5_143 : Int32), K1 (x4_143, x5_143) → G E Γ 9 143 [(0, .ref 0), (4, .int x4_143), (5, .int x5_143)] [] M) :
    ∀ (n : Nat) (x4 : Int32) (x5 : Int32) (x6 : Int32), wpO (fX11_with_L47 x1 x2 x3 M n x4 x5 x6) K1 → G E Γ 9 47 [(0, .ref 0), (1, .int x1), (2, .int x2), (3, .int x3), (4, .int x4), (5, .int x5), (6, .int x6)] [] M := by
  intro n
  induction n with
  | zero =>
    intro x4 x5 x6 h
    exact (wpO_0 h).elim
  | succ n ih =>
    intro x4 x5 x6 h
    rw [fX11_with_L47.eq_2] at h
    refine g_iload (i := 6) (x := x6) hC (dX11_with_47) rfl ?_
    refine g_iload_n (i := 3) (x := x3) hC (dX11_with_49) rfl rfl ?_
    refine g_icmp_gt (tgt := 143) hC (dX11_with_50) (by decide) (fun c50 => ?_) (fun c50 => ?_)
    · have h := wpO_t c50 h
      refine g_sub (lv' := [(0, .ref 0), (4, .int x4), (5, .int x5)]) [0, 4, 5] rfl ?_
      exact hx _ _ (wpO_s h)
    · have h := wpO_f c50 h
      refine g_iload (i := 6) (x := x6) hC (dX11_with_53) rfl ?_
      refine g_iload_n (i := 3) (x := x3) hC (dX11_with_55) rfl rfl ?_
      refine g_iconst (v := (-1)) hC (dX11_with_56) kc_m1 ?_
      refine g_ixor hC (dX11_with_57) ?_
      refine g_iand hC (dX11_with_58) ?_
      refine wpO_bJ h (fun KJ2 hKJ2 h => ?_)
      have hJ2 : ∀ (x4_137 : Int32) (x5_137 : Int32), KJ2 (x4_137, x5_137) → G E Γ 9 137 [(0, .ref 0), (1, .int x1), (2, .int x2), (3, .int x3), (4, .int x4_137), (5, .int x5_137), (6, .int x6)] [] M := by
        intro x4_137 x5_137 h
        have h := hKJ2 _ h
        have h := wpO_p h
        refine g_iinc (x := x6) (v := (x6 + 1)) (lv2 := [(6, .int (x6 + 1)), (0, .ref 0), (1, .int x1), (2, .int x2), (3, .int x3), (4, .int x4_137), (5, .int x5_137)]) hC (dX11_with_137) rfl rfl (by decide) rfl ?_
        refine g_goto (tgt := 47) hC (dX11_with_140) (by decide) ?_
        refine g_sub (lv' := [(0, .ref 0), (1, .int x1), (2, .int x2), (3, .int x3), (4, .int x4_137), (5, .int x5_137), (6, .int (x6 + 1))]) [1, 2, 3, 4, 5, 6, 0] rfl ?_
        exact ih _ _ _ h
      refine g_if_ne (tgt := 137) hC (dX11_with_59) (by decide) (fun c59 => ?_) (fun c59 => ?_)
      · have h := wpO_f c59 h
        exact hJ2 _ _ (wpO_s h)
      · have h := wpO_t c59 h
        refine g_iload (i := 6) (x := x6) hC (dX11_with_62) rfl ?_
        refine g_callSi ([.int x6]) hC wsX11_240 (dX11_with_64) rfl (by omega) (Nat.le_of_ble_eq_true rfl) (cJ6_bitCount_0f7a4_ok (by omega) x6 M (K := fun r => r = fJ6_bitCount_0f7a4 x6) rfl) (fun r N q => ?_)
        obtain ⟨rfl, rfl⟩ := q
        refine g_iload_n (i := 1) (x := x1) hC (dX11_with_67) rfl rfl ?_
        refine g_icmp_le (tgt := 74) hC (dX11_with_68) (by decide) (fun c68 => ?_) (fun c68 => ?_)
        · have h := wpO_t c68 h
          refine g_aload_n (i := 0) (x := 0) hC (dX11_with_74) rfl rfl ?_
          refine g_getR (r := 5) hC flX11_26 (dX11_with_75) rfl rfl rfl ?_
          refine g_iload_n (i := 2) (x := x2) hC (dX11_with_78) rfl rfl ?_
          refine g_iload (i := 6) (x := x6) hC (dX11_with_79) rfl ?_
          refine g_ior hC (dX11_with_81) ?_
          have h := wpO_b h
          refine g_callVi ([.int (x2 ||| x6)]) hC wvX11_237 (dX11_with_82) rfl rfl (by omega) (Nat.le_of_ble_eq_true rfl) (cX7_doableWith_ok (by omega) (x2 ||| x6) M h) (fun r4 N q => ?_)
          obtain ⟨rfl, h⟩ := q
          refine g_callSi ([.int r4]) hC wsX11_240 (dX11_with_85) rfl (by omega) (Nat.le_of_ble_eq_true rfl) (cJ6_bitCount_0f7a4_ok (by omega) r4 M (K := fun r => r = fJ6_bitCount_0f7a4 r4) rfl) (fun r N q => ?_)
          obtain ⟨rfl, rfl⟩ := q
          refine g_nmi (fun x7_88 e_x7_88 => ?_)
          have h := wpO_n e_x7_88 h
          refine g_istore (i := 7) (lv2 := [(7, .int x7_88), (0, .ref 0), (1, .int x1), (2, .int x2), (3, .int x3), (4, .int x4), (5, .int x5), (6, .int x6)]) hC (dX11_with_88) (by decide) rfl ?_
          refine g_iload (i := 6) (x := x6) hC (dX11_with_90) rfl ?_
          refine g_callSi ([.int x6]) hC wsX11_240 (dX11_with_92) rfl (by omega) (Nat.le_of_ble_eq_true rfl) (cJ6_bitCount_0f7a4_ok (by omega) x6 M (K := fun r => r = fJ6_bitCount_0f7a4 x6) rfl) (fun r N q => ?_)
          obtain ⟨rfl, rfl⟩ := q
          refine g_iload (i := 5) (x := x5) hC (dX11_with_95) rfl ?_
          refine g_callSi ([.int x5]) hC wsX11_240 (dX11_with_97) rfl (by omega) (Nat.le_of_ble_eq_true rfl) (cJ6_bitCount_0f7a4_ok (by omega) x5 M (K := fun r => r = fJ6_bitCount_0f7a4 x5) rfl) (fun r N q => ?_)
          obtain ⟨rfl, rfl⟩ := q
          obtain ⟨s0_108, e_s0_108, h⟩ := wpO_l h
          have hJ8 : G E Γ 9 108 [(0, .ref 0), (1, .int x1), (2, .int x2), (3, .int x3), (4, .int x4), (5, .int x5), (6, .int x6), (7, .int x7_88)] [.int s0_108] M := by
            refine g_istore (i := 8) (lv2 := [(8, .int s0_108), (0, .ref 0), (1, .int x1), (2, .int x2), (3, .int x3), (4, .int x4), (5, .int x5), (6, .int x6), (7, .int x7_88)]) hC (dX11_with_108) (by decide) rfl ?_
            refine g_iload (i := 7) (x := x7_88) hC (dX11_with_110) rfl ?_
            refine g_iload (i := 4) (x := x4) hC (dX11_with_112) rfl ?_
            refine wpO_j h (fun J9 hkJ9 h => ?_)
            have hJ9 : ∀ (_ : Unit), wpO (J9 ()) KJ2 → G E Γ 9 129 [(0, .ref 0), (1, .int x1), (2, .int x2), (3, .int x3), (6, .int x6), (7, .int x7_88)] [] M := by
              intro _ h
              have h := hkJ9 _ h
              refine g_iload (i := 7) (x := x7_88) hC (dX11_with_129) rfl ?_
              refine g_istore (i := 4) (lv2 := [(4, .int x7_88), (0, .ref 0), (1, .int x1), (2, .int x2), (3, .int x3), (6, .int x6), (7, .int x7_88)]) hC (dX11_with_131) (by decide) rfl ?_
              refine g_iload (i := 6) (x := x6) hC (dX11_with_133) rfl ?_
              refine g_istore (i := 5) (lv2 := [(5, .int x6), (4, .int x7_88), (0, .ref 0), (1, .int x1), (2, .int x2), (3, .int x3), (6, .int x6), (7, .int x7_88)]) hC (dX11_with_135) (by decide) rfl ?_
              refine g_sub (lv' := [(0, .ref 0), (1, .int x1), (2, .int x2), (3, .int x3), (4, .int x7_88), (5, .int x6), (6, .int x6)]) [2, 3, 4, 5, 1, 0, 6] rfl ?_
              exact hJ2 _ _ (wpO_s h)
            refine g_icmp_gt (tgt := 129) hC (dX11_with_114) (by decide) (fun c114 => ?_) (fun c114 => ?_)
            · have h := wpO_t c114 h
              refine g_sub (lv' := [(0, .ref 0), (1, .int x1), (2, .int x2), (3, .int x3), (6, .int x6), (7, .int x7_88)]) [1, 2, 3, 4, 7, 8] rfl ?_
              exact hJ9 () h
            · have h := wpO_f c114 h
              refine g_iload (i := 7) (x := x7_88) hC (dX11_with_117) rfl ?_
              refine g_iload (i := 4) (x := x4) hC (dX11_with_119) rfl ?_
              refine g_icmp_ne (tgt := 137) hC (dX11_with_121) (by decide) (fun c121 => ?_) (fun c121 => ?_)
              · have h := wpO_f c121 h
                refine g_sub (lv' := [(0, .ref 0), (1, .int x1), (2, .int x2), (3, .int x3), (4, .int x4), (5, .int x5), (6, .int x6)]) [1, 2, 3, 4, 5, 6, 7] rfl ?_
                exact hJ2 _ _ (wpO_s h)
              · have h := wpO_t c121 h
                refine g_iload (i := 8) (x := s0_108) hC (dX11_with_124) rfl ?_
                refine g_if_eq (tgt := 137) hC (dX11_with_126) (by decide) (fun c126 => ?_) (fun c126 => ?_)
                · have h := wpO_t c126 h
                  refine g_sub (lv' := [(0, .ref 0), (1, .int x1), (2, .int x2), (3, .int x3), (4, .int x4), (5, .int x5), (6, .int x6)]) [1, 2, 3, 4, 5, 6, 7] rfl ?_
                  exact hJ2 _ _ (wpO_s h)
                · have h := wpO_f c126 h
                  refine g_sub (lv' := [(0, .ref 0), (1, .int x1), (2, .int x2), (3, .int x3), (6, .int x6), (7, .int x7_88)]) [1, 2, 3, 4, 7, 8] rfl ?_
                  exact hJ9 () h
          refine g_icmp_ge (tgt := 107) hC (dX11_with_100) (by decide) (fun c100 => ?_) (fun c100 => ?_)
          · rw [if_pos c100] at e_s0_108
            refine g_iconst (v := 0) hC (dX11_with_107) kc_0 ?_
            refine g_sub (lv' := [(0, .ref 0), (1, .int x1), (2, .int x2), (3, .int x3), (4, .int x4), (5, .int x5), (6, .int x6), (7, .int x7_88)]) [1, 2, 3, 4, 5, 6, 7, 0] rfl ?_
            subst e_s0_108
            exact hJ8
          · rw [if_neg c100] at e_s0_108
            refine g_iconst (v := 1) hC (dX11_with_103) kc_1 ?_
            refine g_goto (tgt := 108) hC (dX11_with_104) (by decide) ?_
            refine g_sub (lv' := [(0, .ref 0), (1, .int x1), (2, .int x2), (3, .int x3), (4, .int x4), (5, .int x5), (6, .int x6), (7, .int x7_88)]) [1, 2, 3, 4, 5, 6, 7, 0] rfl ?_
            subst e_s0_108
            exact hJ8
        · have h := wpO_f c68 h
          refine g_goto (tgt := 137) hC (dX11_with_71) (by decide) ?_
          exact hJ2 _ _ (wpO_s h)
set_option maxHeartbeats 4000000 in
theorem cX11_with_ok {E : zE} {d : Nat} (hd : 1 ≤ d) (x1 : Int32) (M : zM) {K : (Int32 × zM) → Prop} (h : wpO (fX11_with x1 M) K) : CMi E d yX11_with cX11_with 9 (some .int) [.ref 0, .int x1] M (fun r N => K (r, N)) := by
  refine CMi.of (by decide) (Nat.le_of_ble_eq_true rfl) (fun Γ hC hr => ?_)
  have hC : Cx E Γ RX11 cX11_with 9 d := hC
  show G E Γ 9 0 [(0, .ref 0), (1, .int x1)] [] M
  unfold fX11_with at h
  refine g_iload_n (i := 1) (x := x1) hC (dX11_with_0) rfl rfl ?_
  refine g_if_lt (tgt := 10) hC (dX11_with_1) (by decide) (fun c1 => ?_) (fun c1 => ?_)
  · have h := wpO_t c1 h
    refine g_iconst (v := (-1)) hC (dX11_with_10) kc_m1 ?_
    refine g_ireturn hC hr (dX11_with_11) ?_
    exact wpO_s h
  · have h := wpO_f c1 h
    refine g_iload_n (i := 1) (x := x1) hC (dX11_with_4) rfl rfl ?_
    refine g_bipush (v := 8) hC (dX11_with_5) kb_8 ?_
    refine g_icmp_le (tgt := 12) hC (dX11_with_7) (by decide) (fun c7 => ?_) (fun c7 => ?_)
    · have h := wpO_t c7 h
      refine g_aload_n (i := 0) (x := 0) hC (dX11_with_12) rfl rfl ?_
      refine g_getR (r := 60) hC flX11_33 (dX11_with_13) rfl rfl rfl ?_
      refine g_bipush (v := 6) hC (dX11_with_16) kb_6 ?_
      have h := wpO_b h
      refine g_callVi ([.int 6]) hC wvX11_204 (dX11_with_18) rfl rfl (by omega) (Nat.le_of_ble_eq_true rfl) (cX10_heldBy_ok (by omega) 60 6 M h) (fun r1 N q => ?_)
      obtain ⟨rfl, h⟩ := q
      refine g_istore_n (i := 2) (lv2 := [(2, .int r1), (0, .ref 0), (1, .int x1)]) hC (dX11_with_21) rfl (by decide) rfl ?_
      refine g_iconst (v := 1) hC (dX11_with_22) kc_1 ?_
      refine g_aload_n (i := 0) (x := 0) hC (dX11_with_23) rfl rfl ?_
      refine g_getR (r := 5) hC flX11_26 (dX11_with_24) rfl rfl rfl ?_
      refine g_getI hC flX11_135 (dX11_with_27) rfl rfl ?_
      refine g_ishl hC (dX11_with_30) ?_
      refine g_iconst (v := 1) hC (dX11_with_31) kc_1 ?_
      refine g_isub hC (dX11_with_32) ?_
      refine g_iload_n (i := 2) (x := r1) hC (dX11_with_33) rfl rfl ?_
      refine g_iconst (v := (-1)) hC (dX11_with_34) kc_m1 ?_
      refine g_ixor hC (dX11_with_35) ?_
      refine g_iand hC (dX11_with_36) ?_
      refine g_nmi (fun x3_37 e_x3_37 => ?_)
      have h := wpO_n e_x3_37 h
      refine g_istore_n (i := 3) (lv2 := [(3, .int x3_37), (2, .int r1), (0, .ref 0), (1, .int x1)]) hC (dX11_with_37) rfl (by decide) rfl ?_
      refine g_iconst (v := (-1)) hC (dX11_with_38) kc_m1 ?_
      refine g_istore (i := 4) (lv2 := [(4, .int (-1)), (3, .int x3_37), (2, .int r1), (0, .ref 0), (1, .int x1)]) hC (dX11_with_39) (by decide) rfl ?_
      refine g_iconst (v := 0) hC (dX11_with_41) kc_0 ?_
      refine g_istore (i := 5) (lv2 := [(5, .int 0), (4, .int (-1)), (3, .int x3_37), (2, .int r1), (0, .ref 0), (1, .int x1)]) hC (dX11_with_42) (by decide) rfl ?_
      refine g_iconst (v := 0) hC (dX11_with_44) kc_0 ?_
      refine g_istore (i := 6) (lv2 := [(6, .int 0), (5, .int 0), (4, .int (-1)), (3, .int x3_37), (2, .int r1), (0, .ref 0), (1, .int x1)]) hC (dX11_with_45) (by decide) rfl ?_
      refine g_sub (lv' := [(0, .ref 0), (1, .int x1), (2, .int r1), (3, .int x3_37), (4, .int (-1)), (5, .int 0), (6, .int 0)]) [5, 6, 4, 3, 2, 1, 0] rfl ?_
      refine wpO_bJ h (fun KL47 hKL47 h => ?_)
      refine lX11_with_47 (K1 := KL47) hC (by omega) x1 r1 x3_37 M (fun x4_143 x5_143 h => ?_) _ _ _ _ h
      have h := hKL47 _ h
      have h := wpO_p h
      refine g_aload_n (i := 0) (x := 0) hC (dX11_with_143) rfl rfl ?_
      refine g_getR (r := 3) hC flX11_19 (dX11_with_144) rfl rfl rfl ?_
      refine g_callVv ([]) hC wvX11_230 (dX11_with_147) rfl rfl (by omega) (Nat.le_of_ble_eq_true rfl) (cX3_begin_ok (by omega) M (K := fun r => r = fX3_begin M) rfl) (fun N q => ?_)
      subst q
      refine g_nmM (fun M147 e_M147 => ?_)
      have h := wpO_n e_M147 h
      refine g_aload_n (i := 0) (x := 0) hC (dX11_with_150) rfl rfl ?_
      refine g_getR (r := 3) hC flX11_19 (dX11_with_151) rfl rfl rfl ?_
      refine g_iload (i := 5) (x := x5_143) hC (dX11_with_154) rfl ?_
      refine g_i2l hC (dX11_with_156) ?_
      have h := wpO_b h
      refine g_callVv ([.long x5_143.toInt64]) hC wvX11_233 (dX11_with_157) rfl rfl (by omega) (Nat.le_of_ble_eq_true rfl) (cX3_tell_ok (by omega) x5_143.toInt64 M147 h) (fun M157 h => ?_)
      refine g_iload (i := 4) (x := x4_143) hC (dX11_with_160) rfl ?_
      refine g_ireturn hC hr (dX11_with_162) ?_
      exact wpO_s h
    · have h := wpO_f c7 h
      refine g_iconst (v := (-1)) hC (dX11_with_10) kc_m1 ?_
      refine g_ireturn hC hr (dX11_with_11) ?_
      exact wpO_s h
/-! LostByState.weakest()I -/
theorem dX11_weakest_0 : decode cX11_weakest 0 = .ok (.aload_n 0, 1) := by decide +kernel
theorem dX11_weakest_1 : decode cX11_weakest 1 = .ok (.getfield 33, 3) := by decide +kernel
theorem dX11_weakest_4 : decode cX11_weakest 4 = .ok (.bipush 6, 2) := by decide +kernel
theorem dX11_weakest_6 : decode cX11_weakest 6 = .ok (.invokevirtual 204, 3) := by decide +kernel
theorem dX11_weakest_9 : decode cX11_weakest 9 = .ok (.istore_n 1, 1) := by decide +kernel
theorem dX11_weakest_10 : decode cX11_weakest 10 = .ok (.aload_n 0, 1) := by decide +kernel
theorem dX11_weakest_11 : decode cX11_weakest 11 = .ok (.getfield 26, 3) := by decide +kernel
theorem dX11_weakest_14 : decode cX11_weakest 14 = .ok (.iload_n 1, 1) := by decide +kernel
theorem dX11_weakest_15 : decode cX11_weakest 15 = .ok (.invokevirtual 237, 3) := by decide +kernel
theorem dX11_weakest_18 : decode cX11_weakest 18 = .ok (.istore_n 2, 1) := by decide +kernel
theorem dX11_weakest_19 : decode cX11_weakest 19 = .ok (.iconst (-1), 1) := by decide +kernel
theorem dX11_weakest_20 : decode cX11_weakest 20 = .ok (.istore_n 3, 1) := by decide +kernel
theorem dX11_weakest_21 : decode cX11_weakest 21 = .ok (.iconst (-1), 1) := by decide +kernel
theorem dX11_weakest_22 : decode cX11_weakest 22 = .ok (.istore 4, 2) := by decide +kernel
theorem dX11_weakest_24 : decode cX11_weakest 24 = .ok (.iconst 0, 1) := by decide +kernel
theorem dX11_weakest_25 : decode cX11_weakest 25 = .ok (.istore 5, 2) := by decide +kernel
theorem dX11_weakest_27 : decode cX11_weakest 27 = .ok (.iload 5, 2) := by decide +kernel
theorem dX11_weakest_29 : decode cX11_weakest 29 = .ok (.aload_n 0, 1) := by decide +kernel
theorem dX11_weakest_30 : decode cX11_weakest 30 = .ok (.getfield 26, 3) := by decide +kernel
theorem dX11_weakest_33 : decode cX11_weakest 33 = .ok (.getfield 135, 3) := by decide +kernel
theorem dX11_weakest_36 : decode cX11_weakest 36 = .ok (.if_icmp .ge 48, 3) := by decide +kernel
theorem dX11_weakest_39 : decode cX11_weakest 39 = .ok (.iload_n 2, 1) := by decide +kernel
theorem dX11_weakest_40 : decode cX11_weakest 40 = .ok (.aload_n 0, 1) := by decide +kernel
theorem dX11_weakest_41 : decode cX11_weakest 41 = .ok (.getfield 26, 3) := by decide +kernel
theorem dX11_weakest_44 : decode cX11_weakest 44 = .ok (.iload 5, 2) := by decide +kernel
theorem dX11_weakest_46 : decode cX11_weakest 46 = .ok (.invokevirtual 194, 3) := by decide +kernel
theorem dX11_weakest_49 : decode cX11_weakest 49 = .ok (.iand, 1) := by decide +kernel
theorem dX11_weakest_50 : decode cX11_weakest 50 = .ok (.invokestatic 240, 3) := by decide +kernel
theorem dX11_weakest_53 : decode cX11_weakest 53 = .ok (.istore 6, 2) := by decide +kernel
theorem dX11_weakest_55 : decode cX11_weakest 55 = .ok (.iload_n 1, 1) := by decide +kernel
theorem dX11_weakest_56 : decode cX11_weakest 56 = .ok (.iload 5, 2) := by decide +kernel
theorem dX11_weakest_58 : decode cX11_weakest 58 = .ok (.invokestatic 339, 3) := by decide +kernel
theorem dX11_weakest_61 : decode cX11_weakest 61 = .ok (.ifCond .eq 17, 3) := by decide +kernel
theorem dX11_weakest_64 : decode cX11_weakest 64 = .ok (.iload 6, 2) := by decide +kernel
theorem dX11_weakest_66 : decode cX11_weakest 66 = .ok (.iload 4, 2) := by decide +kernel
theorem dX11_weakest_68 : decode cX11_weakest 68 = .ok (.if_icmp .le 10, 3) := by decide +kernel
theorem dX11_weakest_71 : decode cX11_weakest 71 = .ok (.iload 6, 2) := by decide +kernel
theorem dX11_weakest_73 : decode cX11_weakest 73 = .ok (.istore 4, 2) := by decide +kernel
theorem dX11_weakest_75 : decode cX11_weakest 75 = .ok (.iload 5, 2) := by decide +kernel
theorem dX11_weakest_77 : decode cX11_weakest 77 = .ok (.istore_n 3, 1) := by decide +kernel
theorem dX11_weakest_78 : decode cX11_weakest 78 = .ok (.iinc 5 1, 3) := by decide +kernel
theorem dX11_weakest_81 : decode cX11_weakest 81 = .ok (.goto (-54), 3) := by decide +kernel
theorem dX11_weakest_84 : decode cX11_weakest 84 = .ok (.iload_n 3, 1) := by decide +kernel
theorem dX11_weakest_85 : decode cX11_weakest 85 = .ok (.ifCond .ge 6, 3) := by decide +kernel
theorem dX11_weakest_88 : decode cX11_weakest 88 = .ok (.bipush (-2), 2) := by decide +kernel
theorem dX11_weakest_90 : decode cX11_weakest 90 = .ok (.ireturn, 1) := by decide +kernel
theorem dX11_weakest_91 : decode cX11_weakest 91 = .ok (.aload_n 0, 1) := by decide +kernel
theorem dX11_weakest_92 : decode cX11_weakest 92 = .ok (.getfield 19, 3) := by decide +kernel
theorem dX11_weakest_95 : decode cX11_weakest 95 = .ok (.invokevirtual 230, 3) := by decide +kernel
theorem dX11_weakest_98 : decode cX11_weakest 98 = .ok (.aload_n 0, 1) := by decide +kernel
theorem dX11_weakest_99 : decode cX11_weakest 99 = .ok (.getfield 19, 3) := by decide +kernel
theorem dX11_weakest_102 : decode cX11_weakest 102 = .ok (.iload_n 2, 1) := by decide +kernel
theorem dX11_weakest_103 : decode cX11_weakest 103 = .ok (.aload_n 0, 1) := by decide +kernel
theorem dX11_weakest_104 : decode cX11_weakest 104 = .ok (.getfield 26, 3) := by decide +kernel
theorem dX11_weakest_107 : decode cX11_weakest 107 = .ok (.iload_n 3, 1) := by decide +kernel
theorem dX11_weakest_108 : decode cX11_weakest 108 = .ok (.invokevirtual 194, 3) := by decide +kernel
theorem dX11_weakest_111 : decode cX11_weakest 111 = .ok (.iand, 1) := by decide +kernel
theorem dX11_weakest_112 : decode cX11_weakest 112 = .ok (.i2l, 1) := by decide +kernel
theorem dX11_weakest_113 : decode cX11_weakest 113 = .ok (.invokevirtual 233, 3) := by decide +kernel
theorem dX11_weakest_116 : decode cX11_weakest 116 = .ok (.iload_n 3, 1) := by decide +kernel
theorem dX11_weakest_117 : decode cX11_weakest 117 = .ok (.ireturn, 1) := by decide +kernel
def fX11_weakest_L27 (x1 : Int32) (x2 : Int32) (M : zM) : Nat → Int32 → Int32 → Int32 → Option Int32
  | 0, _, _, _ => none
  | n + 1, x3, x4, x5 => if (M.1 5 3) ≤ x5 then (
    some x3)
    else (
    (fX7_deedsThatNeed x5 M).bind fun (r3 : Int32) =>
    zlet (fJ6_bitCount_0f7a4 (x2 &&& r3)) fun (x6_53 : Int32) =>
    zlet (if (fX11_isOf x1 x5) = 0 then (
    x3)
    else (
    if x6_53 ≤ x4 then (
    x3)
    else (
    x5))) fun (x3_78 : Int32) =>
    zlet (if (fX11_isOf x1 x5) = 0 then (
    x4)
    else (
    if x6_53 ≤ x4 then (
    x4)
    else (
    x6_53))) fun (x4_78 : Int32) =>
    fX11_weakest_L27 x1 x2 M n x3_78 x4_78 (x5 + 1))
def fX11_weakest  (M : zM) : Option (Int32 × zM) := (fX10_heldBy 60 6 M).bind fun (r1 : Int32) =>
  (fX7_doableWith r1 M).bind fun (r2 : Int32) =>
  (fX11_weakest_L27 r1 r2 M 4000 (-1) (-1) 0).bind fun (x3_84 : Int32) =>
  if 0 ≤ x3_84 then (
  zlet (fX3_begin M) fun (M95 : zM) =>
  (fX7_deedsThatNeed x3_84 M95).bind fun (r8 : Int32) =>
  (fX3_tell ((r2 &&& r8).toInt64) M95).bind fun (M113 : zM) =>
  some (x3_84, M113))
  else (
  some ((-2), M))
set_option maxHeartbeats 4000000 in
theorem lX11_weakest_27 {E : zE} {Γ : zT} {d : Nat} {K1 : Int32 → Prop} (hC : Cx E Γ RX11 cX11_weakest 7 d) (hd : 1 ≤ d) (x1 : Int32) (x2 : Int32) (M : zM) (hx : ∀ (x3_84 : Int32), K1 x3_84 → G E Γ 7 84 [(0, .ref 0), (2, .int x2), (3, .int x3_84)] [] M) :
    ∀ (n : Nat) (x3 : Int32) (x4 : Int32) (x5 : Int32), wpO (fX11_weakest_L27 x1 x2 M n x3 x4 x5) K1 → G E Γ 7 27 [(0, .ref 0), (1, .int x1), (2, .int x2), (3, .int x3), (4, .int x4), (5, .int x5)] [] M := by
  intro n
  induction n with
  | zero =>
    intro x3 x4 x5 h
    exact (wpO_0 h).elim
  | succ n ih =>
    intro x3 x4 x5 h
    rw [fX11_weakest_L27.eq_2] at h
    refine g_iload (i := 5) (x := x5) hC (dX11_weakest_27) rfl ?_
    refine g_aload_n (i := 0) (x := 0) hC (dX11_weakest_29) rfl rfl ?_
    refine g_getR (r := 5) hC flX11_26 (dX11_weakest_30) rfl rfl rfl ?_
    refine g_getI hC flX11_135 (dX11_weakest_33) rfl rfl ?_
    refine g_icmp_ge (tgt := 84) hC (dX11_weakest_36) (by decide) (fun c36 => ?_) (fun c36 => ?_)
    · have h := wpO_t c36 h
      refine g_sub (lv' := [(0, .ref 0), (2, .int x2), (3, .int x3)]) [0, 2, 3] rfl ?_
      exact hx _ (wpO_s h)
    · have h := wpO_f c36 h
      refine g_iload_n (i := 2) (x := x2) hC (dX11_weakest_39) rfl rfl ?_
      refine g_aload_n (i := 0) (x := 0) hC (dX11_weakest_40) rfl rfl ?_
      refine g_getR (r := 5) hC flX11_26 (dX11_weakest_41) rfl rfl rfl ?_
      refine g_iload (i := 5) (x := x5) hC (dX11_weakest_44) rfl ?_
      have h := wpO_b h
      refine g_callVi ([.int x5]) hC wvX11_194 (dX11_weakest_46) rfl rfl (by omega) (Nat.le_of_ble_eq_true rfl) (cX7_deedsThatNeed_ok (by omega) x5 M h) (fun r3 N q => ?_)
      obtain ⟨rfl, h⟩ := q
      refine g_iand hC (dX11_weakest_49) ?_
      refine g_callSi ([.int (x2 &&& r3)]) hC wsX11_240 (dX11_weakest_50) rfl (by omega) (Nat.le_of_ble_eq_true rfl) (cJ6_bitCount_0f7a4_ok (by omega) (x2 &&& r3) M (K := fun r => r = fJ6_bitCount_0f7a4 (x2 &&& r3)) rfl) (fun r N q => ?_)
      obtain ⟨rfl, rfl⟩ := q
      refine g_nmi (fun x6_53 e_x6_53 => ?_)
      have h := wpO_n e_x6_53 h
      refine g_istore (i := 6) (lv2 := [(6, .int x6_53), (0, .ref 0), (1, .int x1), (2, .int x2), (3, .int x3), (4, .int x4), (5, .int x5)]) hC (dX11_weakest_53) (by decide) rfl ?_
      refine g_iload_n (i := 1) (x := x1) hC (dX11_weakest_55) rfl rfl ?_
      refine g_iload (i := 5) (x := x5) hC (dX11_weakest_56) rfl ?_
      refine g_callSi ([.int x1, .int x5]) hC wsX11_339 (dX11_weakest_58) rfl (by omega) (Nat.le_of_ble_eq_true rfl) (cX11_isOf_ok (by omega) x1 x5 M (K := fun r => r = fX11_isOf x1 x5) rfl) (fun r N q => ?_)
      obtain ⟨rfl, rfl⟩ := q
      obtain ⟨x3_78, e_x3_78, h⟩ := wpO_l h
      obtain ⟨x4_78, e_x4_78, h⟩ := wpO_l h
      have hJ6 : G E Γ 7 78 [(0, .ref 0), (1, .int x1), (2, .int x2), (3, .int x3_78), (4, .int x4_78), (5, .int x5)] [] M := by
        refine g_iinc (x := x5) (v := (x5 + 1)) (lv2 := [(5, .int (x5 + 1)), (0, .ref 0), (1, .int x1), (2, .int x2), (3, .int x3_78), (4, .int x4_78)]) hC (dX11_weakest_78) rfl rfl (by decide) rfl ?_
        refine g_goto (tgt := 27) hC (dX11_weakest_81) (by decide) ?_
        refine g_sub (lv' := [(0, .ref 0), (1, .int x1), (2, .int x2), (3, .int x3_78), (4, .int x4_78), (5, .int (x5 + 1))]) [1, 2, 3, 4, 5, 0] rfl ?_
        exact ih _ _ _ h
      refine g_if_eq (tgt := 78) hC (dX11_weakest_61) (by decide) (fun c61 => ?_) (fun c61 => ?_)
      · rw [if_pos c61] at e_x3_78 e_x4_78
        refine g_sub (lv' := [(0, .ref 0), (1, .int x1), (2, .int x2), (3, .int x3), (4, .int x4), (5, .int x5)]) [1, 2, 3, 4, 5, 6] rfl ?_
        subst e_x3_78
        subst e_x4_78
        exact hJ6
      · rw [if_neg c61] at e_x3_78 e_x4_78
        refine g_iload (i := 6) (x := x6_53) hC (dX11_weakest_64) rfl ?_
        refine g_iload (i := 4) (x := x4) hC (dX11_weakest_66) rfl ?_
        refine g_icmp_le (tgt := 78) hC (dX11_weakest_68) (by decide) (fun c68 => ?_) (fun c68 => ?_)
        · rw [if_pos c68] at e_x3_78 e_x4_78
          refine g_sub (lv' := [(0, .ref 0), (1, .int x1), (2, .int x2), (3, .int x3), (4, .int x4), (5, .int x5)]) [1, 2, 3, 4, 5, 6] rfl ?_
          subst e_x3_78
          subst e_x4_78
          exact hJ6
        · rw [if_neg c68] at e_x3_78 e_x4_78
          refine g_iload (i := 6) (x := x6_53) hC (dX11_weakest_71) rfl ?_
          refine g_istore (i := 4) (lv2 := [(4, .int x6_53), (6, .int x6_53), (0, .ref 0), (1, .int x1), (2, .int x2), (3, .int x3), (5, .int x5)]) hC (dX11_weakest_73) (by decide) rfl ?_
          refine g_iload (i := 5) (x := x5) hC (dX11_weakest_75) rfl ?_
          refine g_istore_n (i := 3) (lv2 := [(3, .int x5), (4, .int x6_53), (6, .int x6_53), (0, .ref 0), (1, .int x1), (2, .int x2), (5, .int x5)]) hC (dX11_weakest_77) rfl (by decide) rfl ?_
          refine g_sub (lv' := [(0, .ref 0), (1, .int x1), (2, .int x2), (3, .int x5), (4, .int x6_53), (5, .int x5)]) [3, 4, 5, 0, 1, 6] rfl ?_
          subst e_x3_78
          subst e_x4_78
          exact hJ6
set_option maxHeartbeats 4000000 in
theorem cX11_weakest_ok {E : zE} {d : Nat} (hd : 1 ≤ d)  (M : zM) {K : (Int32 × zM) → Prop} (h : wpO (fX11_weakest  M) K) : CMi E d yX11_weakest cX11_weakest 7 (some .int) [.ref 0] M (fun r N => K (r, N)) := by
  refine CMi.of (by decide) (Nat.le_of_ble_eq_true rfl) (fun Γ hC hr => ?_)
  have hC : Cx E Γ RX11 cX11_weakest 7 d := hC
  show G E Γ 7 0 [(0, .ref 0)] [] M
  unfold fX11_weakest at h
  refine g_aload_n (i := 0) (x := 0) hC (dX11_weakest_0) rfl rfl ?_
  refine g_getR (r := 60) hC flX11_33 (dX11_weakest_1) rfl rfl rfl ?_
  refine g_bipush (v := 6) hC (dX11_weakest_4) kb_6 ?_
  have h := wpO_b h
  refine g_callVi ([.int 6]) hC wvX11_204 (dX11_weakest_6) rfl rfl (by omega) (Nat.le_of_ble_eq_true rfl) (cX10_heldBy_ok (by omega) 60 6 M h) (fun r1 N q => ?_)
  obtain ⟨rfl, h⟩ := q
  refine g_istore_n (i := 1) (lv2 := [(1, .int r1), (0, .ref 0)]) hC (dX11_weakest_9) rfl (by decide) rfl ?_
  refine g_aload_n (i := 0) (x := 0) hC (dX11_weakest_10) rfl rfl ?_
  refine g_getR (r := 5) hC flX11_26 (dX11_weakest_11) rfl rfl rfl ?_
  refine g_iload_n (i := 1) (x := r1) hC (dX11_weakest_14) rfl rfl ?_
  have h := wpO_b h
  refine g_callVi ([.int r1]) hC wvX11_237 (dX11_weakest_15) rfl rfl (by omega) (Nat.le_of_ble_eq_true rfl) (cX7_doableWith_ok (by omega) r1 M h) (fun r2 N q => ?_)
  obtain ⟨rfl, h⟩ := q
  refine g_istore_n (i := 2) (lv2 := [(2, .int r2), (1, .int r1), (0, .ref 0)]) hC (dX11_weakest_18) rfl (by decide) rfl ?_
  refine g_iconst (v := (-1)) hC (dX11_weakest_19) kc_m1 ?_
  refine g_istore_n (i := 3) (lv2 := [(3, .int (-1)), (2, .int r2), (1, .int r1), (0, .ref 0)]) hC (dX11_weakest_20) rfl (by decide) rfl ?_
  refine g_iconst (v := (-1)) hC (dX11_weakest_21) kc_m1 ?_
  refine g_istore (i := 4) (lv2 := [(4, .int (-1)), (3, .int (-1)), (2, .int r2), (1, .int r1), (0, .ref 0)]) hC (dX11_weakest_22) (by decide) rfl ?_
  refine g_iconst (v := 0) hC (dX11_weakest_24) kc_0 ?_
  refine g_istore (i := 5) (lv2 := [(5, .int 0), (4, .int (-1)), (3, .int (-1)), (2, .int r2), (1, .int r1), (0, .ref 0)]) hC (dX11_weakest_25) (by decide) rfl ?_
  refine g_sub (lv' := [(0, .ref 0), (1, .int r1), (2, .int r2), (3, .int (-1)), (4, .int (-1)), (5, .int 0)]) [5, 4, 3, 2, 1, 0] rfl ?_
  refine wpO_bJ h (fun KL27 hKL27 h => ?_)
  refine lX11_weakest_27 (K1 := KL27) hC (by omega) r1 r2 M (fun x3_84 h => ?_) _ _ _ _ h
  have h := hKL27 _ h
  refine g_iload_n (i := 3) (x := x3_84) hC (dX11_weakest_84) rfl rfl ?_
  refine g_if_ge (tgt := 91) hC (dX11_weakest_85) (by decide) (fun c85 => ?_) (fun c85 => ?_)
  · have h := wpO_t c85 h
    refine g_aload_n (i := 0) (x := 0) hC (dX11_weakest_91) rfl rfl ?_
    refine g_getR (r := 3) hC flX11_19 (dX11_weakest_92) rfl rfl rfl ?_
    refine g_callVv ([]) hC wvX11_230 (dX11_weakest_95) rfl rfl (by omega) (Nat.le_of_ble_eq_true rfl) (cX3_begin_ok (by omega) M (K := fun r => r = fX3_begin M) rfl) (fun N q => ?_)
    subst q
    refine g_nmM (fun M95 e_M95 => ?_)
    have h := wpO_n e_M95 h
    refine g_aload_n (i := 0) (x := 0) hC (dX11_weakest_98) rfl rfl ?_
    refine g_getR (r := 3) hC flX11_19 (dX11_weakest_99) rfl rfl rfl ?_
    refine g_iload_n (i := 2) (x := r2) hC (dX11_weakest_102) rfl rfl ?_
    refine g_aload_n (i := 0) (x := 0) hC (dX11_weakest_103) rfl rfl ?_
    refine g_getR (r := 5) hC flX11_26 (dX11_weakest_104) rfl rfl rfl ?_
    refine g_iload_n (i := 3) (x := x3_84) hC (dX11_weakest_107) rfl rfl ?_
    have h := wpO_b h
    refine g_callVi ([.int x3_84]) hC wvX11_194 (dX11_weakest_108) rfl rfl (by omega) (Nat.le_of_ble_eq_true rfl) (cX7_deedsThatNeed_ok (by omega) x3_84 M95 h) (fun r8 N q => ?_)
    obtain ⟨rfl, h⟩ := q
    refine g_iand hC (dX11_weakest_111) ?_
    refine g_i2l hC (dX11_weakest_112) ?_
    have h := wpO_b h
    refine g_callVv ([.long ((r2 &&& r8).toInt64)]) hC wvX11_233 (dX11_weakest_113) rfl rfl (by omega) (Nat.le_of_ble_eq_true rfl) (cX3_tell_ok (by omega) ((r2 &&& r8).toInt64) M95 h) (fun M113 h => ?_)
    refine g_iload_n (i := 3) (x := x3_84) hC (dX11_weakest_116) rfl rfl ?_
    refine g_ireturn hC hr (dX11_weakest_117) ?_
    exact wpO_s h
  · have h := wpO_f c85 h
    refine g_bipush (v := (-2)) hC (dX11_weakest_88) kb_m2 ?_
    refine g_ireturn hC hr (dX11_weakest_90) ?_
    exact wpO_s h
/-! LostByState.worth(I)I -/
theorem dX11_worth_0 : decode cX11_worth 0 = .ok (.aload_n 0, 1) := by decide +kernel
theorem dX11_worth_1 : decode cX11_worth 1 = .ok (.iload_n 1, 1) := by decide +kernel
theorem dX11_worth_2 : decode cX11_worth 2 = .ok (.invokevirtual 166, 3) := by decide +kernel
theorem dX11_worth_5 : decode cX11_worth 5 = .ok (.ifCond .ne 5, 3) := by decide +kernel
theorem dX11_worth_8 : decode cX11_worth 8 = .ok (.iconst (-1), 1) := by decide +kernel
theorem dX11_worth_9 : decode cX11_worth 9 = .ok (.ireturn, 1) := by decide +kernel
theorem dX11_worth_10 : decode cX11_worth 10 = .ok (.ldc2_w 379, 3) := by decide +kernel
theorem dX11_worth_13 : decode cX11_worth 13 = .ok (.lstore_n 2, 1) := by decide +kernel
theorem dX11_worth_14 : decode cX11_worth 14 = .ok (.lconst 0, 1) := by decide +kernel
theorem dX11_worth_15 : decode cX11_worth 15 = .ok (.lstore 4, 2) := by decide +kernel
theorem dX11_worth_17 : decode cX11_worth 17 = .ok (.iconst 0, 1) := by decide +kernel
theorem dX11_worth_18 : decode cX11_worth 18 = .ok (.istore 6, 2) := by decide +kernel
theorem dX11_worth_20 : decode cX11_worth 20 = .ok (.iload 6, 2) := by decide +kernel
theorem dX11_worth_22 : decode cX11_worth 22 = .ok (.aload_n 0, 1) := by decide +kernel
theorem dX11_worth_23 : decode cX11_worth 23 = .ok (.getfield 26, 3) := by decide +kernel
theorem dX11_worth_26 : decode cX11_worth 26 = .ok (.getfield 151, 3) := by decide +kernel
theorem dX11_worth_29 : decode cX11_worth 29 = .ok (.if_icmp .ge 56, 3) := by decide +kernel
theorem dX11_worth_32 : decode cX11_worth 32 = .ok (.aload_n 0, 1) := by decide +kernel
theorem dX11_worth_33 : decode cX11_worth 33 = .ok (.getfield 26, 3) := by decide +kernel
theorem dX11_worth_36 : decode cX11_worth 36 = .ok (.getfield 148, 3) := by decide +kernel
theorem dX11_worth_39 : decode cX11_worth 39 = .ok (.iload 6, 2) := by decide +kernel
theorem dX11_worth_41 : decode cX11_worth 41 = .ok (.iaload, 1) := by decide +kernel
theorem dX11_worth_42 : decode cX11_worth 42 = .ok (.invokestatic 240, 3) := by decide +kernel
theorem dX11_worth_45 : decode cX11_worth 45 = .ok (.istore 7, 2) := by decide +kernel
theorem dX11_worth_47 : decode cX11_worth 47 = .ok (.aload_n 0, 1) := by decide +kernel
theorem dX11_worth_48 : decode cX11_worth 48 = .ok (.getfield 26, 3) := by decide +kernel
theorem dX11_worth_51 : decode cX11_worth 51 = .ok (.getfield 148, 3) := by decide +kernel
theorem dX11_worth_54 : decode cX11_worth 54 = .ok (.iload 6, 2) := by decide +kernel
theorem dX11_worth_56 : decode cX11_worth 56 = .ok (.iaload, 1) := by decide +kernel
theorem dX11_worth_57 : decode cX11_worth 57 = .ok (.iload_n 1, 1) := by decide +kernel
theorem dX11_worth_58 : decode cX11_worth 58 = .ok (.invokestatic 339, 3) := by decide +kernel
theorem dX11_worth_61 : decode cX11_worth 61 = .ok (.ifCond .eq 18, 3) := by decide +kernel
theorem dX11_worth_64 : decode cX11_worth 64 = .ok (.iload 7, 2) := by decide +kernel
theorem dX11_worth_66 : decode cX11_worth 66 = .ok (.ifCond .le 13, 3) := by decide +kernel
theorem dX11_worth_69 : decode cX11_worth 69 = .ok (.lload 4, 2) := by decide +kernel
theorem dX11_worth_71 : decode cX11_worth 71 = .ok (.lload_n 2, 1) := by decide +kernel
theorem dX11_worth_72 : decode cX11_worth 72 = .ok (.iload 7, 2) := by decide +kernel
theorem dX11_worth_74 : decode cX11_worth 74 = .ok (.i2l, 1) := by decide +kernel
theorem dX11_worth_75 : decode cX11_worth 75 = .ok (.ldiv, 1) := by decide +kernel
theorem dX11_worth_76 : decode cX11_worth 76 = .ok (.ladd, 1) := by decide +kernel
theorem dX11_worth_77 : decode cX11_worth 77 = .ok (.lstore 4, 2) := by decide +kernel
theorem dX11_worth_79 : decode cX11_worth 79 = .ok (.iinc 6 1, 3) := by decide +kernel
theorem dX11_worth_82 : decode cX11_worth 82 = .ok (.goto (-62), 3) := by decide +kernel
theorem dX11_worth_85 : decode cX11_worth 85 = .ok (.aload_n 0, 1) := by decide +kernel
theorem dX11_worth_86 : decode cX11_worth 86 = .ok (.getfield 19, 3) := by decide +kernel
theorem dX11_worth_89 : decode cX11_worth 89 = .ok (.invokevirtual 230, 3) := by decide +kernel
theorem dX11_worth_92 : decode cX11_worth 92 = .ok (.aload_n 0, 1) := by decide +kernel
theorem dX11_worth_93 : decode cX11_worth 93 = .ok (.getfield 19, 3) := by decide +kernel
theorem dX11_worth_96 : decode cX11_worth 96 = .ok (.lload 4, 2) := by decide +kernel
theorem dX11_worth_98 : decode cX11_worth 98 = .ok (.lload_n 2, 1) := by decide +kernel
theorem dX11_worth_99 : decode cX11_worth 99 = .ok (.invokevirtual 372, 3) := by decide +kernel
theorem dX11_worth_102 : decode cX11_worth 102 = .ok (.iconst 0, 1) := by decide +kernel
theorem dX11_worth_103 : decode cX11_worth 103 = .ok (.ireturn, 1) := by decide +kernel
def fX11_worth_L20 (x1 : Int32) (x2 : Int64) (M : zM) : Nat → Int64 → Int32 → Option Int64
  | 0, _, _ => none
  | n + 1, x4, x6 => if (M.1 5 4) ≤ x6 then (
    some x4)
    else (
    if zin x6 6 then (
    zlet (fJ6_bitCount_0f7a4 (M.1 8 x6.toNatClampNeg)) fun (x7_45 : Int32) =>
    (if (fX11_isOf (M.1 8 x6.toNatClampNeg) x1) = 0 then (
    some x4)
    else (
    if x7_45 ≤ 0 then (
    some x4)
    else (
    if ¬ x7_45.toInt64 = 0 then (
    zlet (x4 + (x2 / x7_45.toInt64)) fun (x4_77 : Int64) =>
    some x4_77) else none)) : Option Int64).bind fun (x4_79 : Int64) =>
    fX11_worth_L20 x1 x2 M n x4_79 (x6 + 1)) else none)
def fX11_worth (x1 : Int32) (M : zM) : Option (Int32 × zM) := if (fX11_isThing x1 M) = 0 then (
  some ((-1), M))
  else (
  (fX11_worth_L20 x1 840 M 4000 0 0).bind fun (x4_85 : Int64) =>
  zlet (fX3_begin M) fun (M89 : zM) =>
  (fX3_tellFraction x4_85 840 M89).bind fun (M99 : zM) =>
  some (0, M99))
set_option maxHeartbeats 4000000 in
theorem lX11_worth_20 {E : zE} {Γ : zT} {d : Nat} {K1 : Int64 → Prop} (hC : Cx E Γ RX11 cX11_worth 8 d) (hd : 2 ≤ d) (x1 : Int32) (x2 : Int64) (M : zM) (hx : ∀ (x4_85 : Int64), K1 x4_85 → G E Γ 8 85 [(0, .ref 0), (2, .long x2), (4, .long x4_85)] [] M) :
    ∀ (n : Nat) (x4 : Int64) (x6 : Int32), wpO (fX11_worth_L20 x1 x2 M n x4 x6) K1 → G E Γ 8 20 [(0, .ref 0), (1, .int x1), (2, .long x2), (4, .long x4), (6, .int x6)] [] M := by
  intro n
  induction n with
  | zero =>
    intro x4 x6 h
    exact (wpO_0 h).elim
  | succ n ih =>
    intro x4 x6 h
    rw [fX11_worth_L20.eq_2] at h
    refine g_iload (i := 6) (x := x6) hC (dX11_worth_20) rfl ?_
    refine g_aload_n (i := 0) (x := 0) hC (dX11_worth_22) rfl rfl ?_
    refine g_getR (r := 5) hC flX11_26 (dX11_worth_23) rfl rfl rfl ?_
    refine g_getI hC flX11_151 (dX11_worth_26) rfl rfl ?_
    refine g_icmp_ge (tgt := 85) hC (dX11_worth_29) (by decide) (fun c29 => ?_) (fun c29 => ?_)
    · have h := wpO_t c29 h
      refine g_sub (lv' := [(0, .ref 0), (2, .long x2), (4, .long x4)]) [0, 2, 3] rfl ?_
      exact hx _ (wpO_s h)
    · have h := wpO_f c29 h
      refine g_aload_n (i := 0) (x := 0) hC (dX11_worth_32) rfl rfl ?_
      refine g_getR (r := 5) hC flX11_26 (dX11_worth_33) rfl rfl rfl ?_
      refine g_getR (r := 8) hC flX11_148 (dX11_worth_36) rfl rfl rfl ?_
      refine g_iload (i := 6) (x := x6) hC (dX11_worth_39) rfl ?_
      obtain ⟨q2, h⟩ := wpO_g h
      refine g_iaload (n := 6) hC (dX11_worth_41) rfl q2 ?_
      refine g_callSi ([.int (M.1 8 x6.toNatClampNeg)]) hC wsX11_240 (dX11_worth_42) rfl (by omega) (Nat.le_of_ble_eq_true rfl) (cJ6_bitCount_0f7a4_ok (by omega) (M.1 8 x6.toNatClampNeg) M (K := fun r => r = fJ6_bitCount_0f7a4 (M.1 8 x6.toNatClampNeg)) rfl) (fun r N q => ?_)
      obtain ⟨rfl, rfl⟩ := q
      refine g_nmi (fun x7_45 e_x7_45 => ?_)
      have h := wpO_n e_x7_45 h
      refine g_istore (i := 7) (lv2 := [(7, .int x7_45), (0, .ref 0), (1, .int x1), (2, .long x2), (4, .long x4), (6, .int x6)]) hC (dX11_worth_45) (by decide) rfl ?_
      refine g_aload_n (i := 0) (x := 0) hC (dX11_worth_47) rfl rfl ?_
      refine g_getR (r := 5) hC flX11_26 (dX11_worth_48) rfl rfl rfl ?_
      refine g_getR (r := 8) hC flX11_148 (dX11_worth_51) rfl rfl rfl ?_
      refine g_iload (i := 6) (x := x6) hC (dX11_worth_54) rfl ?_
      refine g_iaload (n := 6) hC (dX11_worth_56) rfl q2 ?_
      refine g_iload_n (i := 1) (x := x1) hC (dX11_worth_57) rfl rfl ?_
      refine g_callSi ([.int (M.1 8 x6.toNatClampNeg), .int x1]) hC wsX11_339 (dX11_worth_58) rfl (by omega) (Nat.le_of_ble_eq_true rfl) (cX11_isOf_ok (by omega) (M.1 8 x6.toNatClampNeg) x1 M (K := fun r => r = fX11_isOf (M.1 8 x6.toNatClampNeg) x1) rfl) (fun r N q => ?_)
      obtain ⟨rfl, rfl⟩ := q
      refine wpO_bJ h (fun KJ5 hKJ5 h => ?_)
      have hJ5 : ∀ (x4_79 : Int64), KJ5 x4_79 → G E Γ 8 79 [(0, .ref 0), (1, .int x1), (2, .long x2), (4, .long x4_79), (6, .int x6)] [] M := by
        intro x4_79 h
        have h := hKJ5 _ h
        refine g_iinc (x := x6) (v := (x6 + 1)) (lv2 := [(6, .int (x6 + 1)), (0, .ref 0), (1, .int x1), (2, .long x2), (4, .long x4_79)]) hC (dX11_worth_79) rfl rfl (by decide) rfl ?_
        refine g_goto (tgt := 20) hC (dX11_worth_82) (by decide) ?_
        refine g_sub (lv' := [(0, .ref 0), (1, .int x1), (2, .long x2), (4, .long x4_79), (6, .int (x6 + 1))]) [1, 2, 3, 4, 0] rfl ?_
        exact ih _ _ h
      refine g_if_eq (tgt := 79) hC (dX11_worth_61) (by decide) (fun c61 => ?_) (fun c61 => ?_)
      · have h := wpO_t c61 h
        refine g_sub (lv' := [(0, .ref 0), (1, .int x1), (2, .long x2), (4, .long x4), (6, .int x6)]) [1, 2, 3, 4, 5] rfl ?_
        exact hJ5 _ (wpO_s h)
      · have h := wpO_f c61 h
        refine g_iload (i := 7) (x := x7_45) hC (dX11_worth_64) rfl ?_
        refine g_if_le (tgt := 79) hC (dX11_worth_66) (by decide) (fun c66 => ?_) (fun c66 => ?_)
        · have h := wpO_t c66 h
          refine g_sub (lv' := [(0, .ref 0), (1, .int x1), (2, .long x2), (4, .long x4), (6, .int x6)]) [1, 2, 3, 4, 5] rfl ?_
          exact hJ5 _ (wpO_s h)
        · have h := wpO_f c66 h
          refine g_lload (i := 4) (x := x4) hC (dX11_worth_69) rfl ?_
          refine g_lload_n (i := 2) (x := x2) hC (dX11_worth_71) rfl rfl ?_
          refine g_iload (i := 7) (x := x7_45) hC (dX11_worth_72) rfl ?_
          refine g_i2l hC (dX11_worth_74) ?_
          obtain ⟨q6, h⟩ := wpO_g h
          refine g_ldiv hC (dX11_worth_75) q6 ?_
          refine g_ladd hC (dX11_worth_76) ?_
          refine g_nml (fun x4_77 e_x4_77 => ?_)
          have h := wpO_n e_x4_77 h
          refine g_lstore (i := 4) (lv2 := [(4, .long x4_77), (7, .int x7_45), (0, .ref 0), (1, .int x1), (2, .long x2), (6, .int x6)]) hC (dX11_worth_77) (by decide) rfl ?_
          refine g_sub (lv' := [(0, .ref 0), (1, .int x1), (2, .long x2), (4, .long x4_77), (6, .int x6)]) [2, 3, 4, 0, 5] rfl ?_
          exact hJ5 _ (wpO_s h)
set_option maxHeartbeats 4000000 in
theorem cX11_worth_ok {E : zE} {d : Nat} (hd : 2 ≤ d) (x1 : Int32) (M : zM) {K : (Int32 × zM) → Prop} (h : wpO (fX11_worth x1 M) K) : CMi E d yX11_worth cX11_worth 8 (some .int) [.ref 0, .int x1] M (fun r N => K (r, N)) := by
  refine CMi.of (by decide) (Nat.le_of_ble_eq_true rfl) (fun Γ hC hr => ?_)
  have hC : Cx E Γ RX11 cX11_worth 8 d := hC
  show G E Γ 8 0 [(0, .ref 0), (1, .int x1)] [] M
  unfold fX11_worth at h
  refine g_aload_n (i := 0) (x := 0) hC (dX11_worth_0) rfl rfl ?_
  refine g_iload_n (i := 1) (x := x1) hC (dX11_worth_1) rfl rfl ?_
  refine g_callVi ([.int x1]) hC wvX11_166 (dX11_worth_2) rfl rfl (by omega) (Nat.le_of_ble_eq_true rfl) (cX11_isThing_ok (by omega) x1 M (K := fun r => r = fX11_isThing x1 M) rfl) (fun r N q => ?_)
  obtain ⟨rfl, rfl⟩ := q
  refine g_if_ne (tgt := 10) hC (dX11_worth_5) (by decide) (fun c5 => ?_) (fun c5 => ?_)
  · have h := wpO_f c5 h
    refine g_ldc2_w (v := 840) hC m_949 (dX11_worth_10) ?_
    refine g_lstore_n (i := 2) (lv2 := [(2, .long 840), (0, .ref 0), (1, .int x1)]) hC (dX11_worth_13) rfl (by decide) rfl ?_
    refine g_lconst (v := 0) hC (dX11_worth_14) kl_0 ?_
    refine g_lstore (i := 4) (lv2 := [(4, .long 0), (2, .long 840), (0, .ref 0), (1, .int x1)]) hC (dX11_worth_15) (by decide) rfl ?_
    refine g_iconst (v := 0) hC (dX11_worth_17) kc_0 ?_
    refine g_istore (i := 6) (lv2 := [(6, .int 0), (4, .long 0), (2, .long 840), (0, .ref 0), (1, .int x1)]) hC (dX11_worth_18) (by decide) rfl ?_
    refine g_sub (lv' := [(0, .ref 0), (1, .int x1), (2, .long 840), (4, .long 0), (6, .int 0)]) [3, 4, 2, 1, 0] rfl ?_
    refine wpO_bJ h (fun KL20 hKL20 h => ?_)
    refine lX11_worth_20 (K1 := KL20) hC (by omega) x1 840 M (fun x4_85 h => ?_) _ _ _ h
    have h := hKL20 _ h
    refine g_aload_n (i := 0) (x := 0) hC (dX11_worth_85) rfl rfl ?_
    refine g_getR (r := 3) hC flX11_19 (dX11_worth_86) rfl rfl rfl ?_
    refine g_callVv ([]) hC wvX11_230 (dX11_worth_89) rfl rfl (by omega) (Nat.le_of_ble_eq_true rfl) (cX3_begin_ok (by omega) M (K := fun r => r = fX3_begin M) rfl) (fun N q => ?_)
    subst q
    refine g_nmM (fun M89 e_M89 => ?_)
    have h := wpO_n e_M89 h
    refine g_aload_n (i := 0) (x := 0) hC (dX11_worth_92) rfl rfl ?_
    refine g_getR (r := 3) hC flX11_19 (dX11_worth_93) rfl rfl rfl ?_
    refine g_lload (i := 4) (x := x4_85) hC (dX11_worth_96) rfl ?_
    refine g_lload_n (i := 2) (x := 840) hC (dX11_worth_98) rfl rfl ?_
    have h := wpO_b h
    refine g_callVv ([.long x4_85, .long 840]) hC wvX11_372 (dX11_worth_99) rfl rfl (by omega) (Nat.le_of_ble_eq_true rfl) (cX3_tellFraction_ok (by omega) x4_85 840 M89 h) (fun M99 h => ?_)
    refine g_iconst (v := 0) hC (dX11_worth_102) kc_0 ?_
    refine g_ireturn hC hr (dX11_worth_103) ?_
    exact wpO_s h
  · have h := wpO_t c5 h
    refine g_iconst (v := (-1)) hC (dX11_worth_8) kc_m1 ?_
    refine g_ireturn hC hr (dX11_worth_9) ?_
    exact wpO_s h
/-! LostByState.hangs(I)I -/
theorem dX11_hangs_0 : decode cX11_hangs 0 = .ok (.aload_n 0, 1) := by decide +kernel
theorem dX11_hangs_1 : decode cX11_hangs 1 = .ok (.iload_n 1, 1) := by decide +kernel
theorem dX11_hangs_2 : decode cX11_hangs 2 = .ok (.invokevirtual 199, 3) := by decide +kernel
theorem dX11_hangs_5 : decode cX11_hangs 5 = .ok (.ifCond .ne 5, 3) := by decide +kernel
theorem dX11_hangs_8 : decode cX11_hangs 8 = .ok (.iconst (-1), 1) := by decide +kernel
theorem dX11_hangs_9 : decode cX11_hangs 9 = .ok (.ireturn, 1) := by decide +kernel
theorem dX11_hangs_10 : decode cX11_hangs 10 = .ok (.iconst 1, 1) := by decide +kernel
theorem dX11_hangs_11 : decode cX11_hangs 11 = .ok (.iload_n 1, 1) := by decide +kernel
theorem dX11_hangs_12 : decode cX11_hangs 12 = .ok (.ishl, 1) := by decide +kernel
theorem dX11_hangs_13 : decode cX11_hangs 13 = .ok (.istore_n 2, 1) := by decide +kernel
theorem dX11_hangs_14 : decode cX11_hangs 14 = .ok (.aload_n 0, 1) := by decide +kernel
theorem dX11_hangs_15 : decode cX11_hangs 15 = .ok (.getfield 26, 3) := by decide +kernel
theorem dX11_hangs_18 : decode cX11_hangs 18 = .ok (.getfield 148, 3) := by decide +kernel
theorem dX11_hangs_21 : decode cX11_hangs 21 = .ok (.iload_n 1, 1) := by decide +kernel
theorem dX11_hangs_22 : decode cX11_hangs 22 = .ok (.iaload, 1) := by decide +kernel
theorem dX11_hangs_23 : decode cX11_hangs 23 = .ok (.istore_n 3, 1) := by decide +kernel
theorem dX11_hangs_24 : decode cX11_hangs 24 = .ok (.iconst 0, 1) := by decide +kernel
theorem dX11_hangs_25 : decode cX11_hangs 25 = .ok (.istore 4, 2) := by decide +kernel
theorem dX11_hangs_27 : decode cX11_hangs 27 = .ok (.iload 4, 2) := by decide +kernel
theorem dX11_hangs_29 : decode cX11_hangs 29 = .ok (.aload_n 0, 1) := by decide +kernel
theorem dX11_hangs_30 : decode cX11_hangs 30 = .ok (.getfield 26, 3) := by decide +kernel
theorem dX11_hangs_33 : decode cX11_hangs 33 = .ok (.getfield 151, 3) := by decide +kernel
theorem dX11_hangs_36 : decode cX11_hangs 36 = .ok (.if_icmp .ge 65, 3) := by decide +kernel
theorem dX11_hangs_39 : decode cX11_hangs 39 = .ok (.iconst 0, 1) := by decide +kernel
theorem dX11_hangs_40 : decode cX11_hangs 40 = .ok (.istore 5, 2) := by decide +kernel
theorem dX11_hangs_42 : decode cX11_hangs 42 = .ok (.iload 5, 2) := by decide +kernel
theorem dX11_hangs_44 : decode cX11_hangs 44 = .ok (.aload_n 0, 1) := by decide +kernel
theorem dX11_hangs_45 : decode cX11_hangs 45 = .ok (.getfield 26, 3) := by decide +kernel
theorem dX11_hangs_48 : decode cX11_hangs 48 = .ok (.getfield 151, 3) := by decide +kernel
theorem dX11_hangs_51 : decode cX11_hangs 51 = .ok (.if_icmp .ge 44, 3) := by decide +kernel
theorem dX11_hangs_54 : decode cX11_hangs 54 = .ok (.aload_n 0, 1) := by decide +kernel
theorem dX11_hangs_55 : decode cX11_hangs 55 = .ok (.getfield 26, 3) := by decide +kernel
theorem dX11_hangs_58 : decode cX11_hangs 58 = .ok (.getfield 148, 3) := by decide +kernel
theorem dX11_hangs_61 : decode cX11_hangs 61 = .ok (.iload 5, 2) := by decide +kernel
theorem dX11_hangs_63 : decode cX11_hangs 63 = .ok (.iaload, 1) := by decide +kernel
theorem dX11_hangs_64 : decode cX11_hangs 64 = .ok (.iload_n 3, 1) := by decide +kernel
theorem dX11_hangs_65 : decode cX11_hangs 65 = .ok (.iand, 1) := by decide +kernel
theorem dX11_hangs_66 : decode cX11_hangs 66 = .ok (.ifCond .eq 23, 3) := by decide +kernel
theorem dX11_hangs_69 : decode cX11_hangs 69 = .ok (.iload_n 2, 1) := by decide +kernel
theorem dX11_hangs_70 : decode cX11_hangs 70 = .ok (.iconst 1, 1) := by decide +kernel
theorem dX11_hangs_71 : decode cX11_hangs 71 = .ok (.iload 5, 2) := by decide +kernel
theorem dX11_hangs_73 : decode cX11_hangs 73 = .ok (.ishl, 1) := by decide +kernel
theorem dX11_hangs_74 : decode cX11_hangs 74 = .ok (.ior, 1) := by decide +kernel
theorem dX11_hangs_75 : decode cX11_hangs 75 = .ok (.istore_n 2, 1) := by decide +kernel
theorem dX11_hangs_76 : decode cX11_hangs 76 = .ok (.iload_n 3, 1) := by decide +kernel
theorem dX11_hangs_77 : decode cX11_hangs 77 = .ok (.aload_n 0, 1) := by decide +kernel
theorem dX11_hangs_78 : decode cX11_hangs 78 = .ok (.getfield 26, 3) := by decide +kernel
theorem dX11_hangs_81 : decode cX11_hangs 81 = .ok (.getfield 148, 3) := by decide +kernel
theorem dX11_hangs_84 : decode cX11_hangs 84 = .ok (.iload 5, 2) := by decide +kernel
theorem dX11_hangs_86 : decode cX11_hangs 86 = .ok (.iaload, 1) := by decide +kernel
theorem dX11_hangs_87 : decode cX11_hangs 87 = .ok (.ior, 1) := by decide +kernel
theorem dX11_hangs_88 : decode cX11_hangs 88 = .ok (.istore_n 3, 1) := by decide +kernel
theorem dX11_hangs_89 : decode cX11_hangs 89 = .ok (.iinc 5 1, 3) := by decide +kernel
theorem dX11_hangs_92 : decode cX11_hangs 92 = .ok (.goto (-50), 3) := by decide +kernel
theorem dX11_hangs_95 : decode cX11_hangs 95 = .ok (.iinc 4 1, 3) := by decide +kernel
theorem dX11_hangs_98 : decode cX11_hangs 98 = .ok (.goto (-71), 3) := by decide +kernel
theorem dX11_hangs_101 : decode cX11_hangs 101 = .ok (.aload_n 0, 1) := by decide +kernel
theorem dX11_hangs_102 : decode cX11_hangs 102 = .ok (.getfield 19, 3) := by decide +kernel
theorem dX11_hangs_105 : decode cX11_hangs 105 = .ok (.invokevirtual 230, 3) := by decide +kernel
theorem dX11_hangs_108 : decode cX11_hangs 108 = .ok (.aload_n 0, 1) := by decide +kernel
theorem dX11_hangs_109 : decode cX11_hangs 109 = .ok (.getfield 19, 3) := by decide +kernel
theorem dX11_hangs_112 : decode cX11_hangs 112 = .ok (.iload_n 3, 1) := by decide +kernel
theorem dX11_hangs_113 : decode cX11_hangs 113 = .ok (.i2l, 1) := by decide +kernel
theorem dX11_hangs_114 : decode cX11_hangs 114 = .ok (.invokevirtual 233, 3) := by decide +kernel
theorem dX11_hangs_117 : decode cX11_hangs 117 = .ok (.iload_n 2, 1) := by decide +kernel
theorem dX11_hangs_118 : decode cX11_hangs 118 = .ok (.ireturn, 1) := by decide +kernel
def fX11_hangs_L42 (x4 : Int32) (M : zM) : Nat → Int32 → Int32 → Int32 → Option (Int32 × Int32)
  | 0, _, _, _ => none
  | n + 1, x2, x3, x5 => if (M.1 5 4) ≤ x5 then (
    some (x2, x3))
    else (
    if zin x5 6 then (
    zlet (if ((M.1 8 x5.toNatClampNeg) &&& x3) = 0 then (
    x2)
    else (
    zlet (x2 ||| (zshl 1 x5)) fun (x2_75 : Int32) =>
    zlet (x3 ||| (M.1 8 x5.toNatClampNeg)) fun (x3_88 : Int32) =>
    x2_75)) fun (x2_89 : Int32) =>
    zlet (if ((M.1 8 x5.toNatClampNeg) &&& x3) = 0 then (
    x3)
    else (
    zlet (x2 ||| (zshl 1 x5)) fun (x2_75 : Int32) =>
    zlet (x3 ||| (M.1 8 x5.toNatClampNeg)) fun (x3_88 : Int32) =>
    x3_88)) fun (x3_89 : Int32) =>
    fX11_hangs_L42 x4 M n x2_89 x3_89 (x5 + 1)) else none)
def fX11_hangs_L27 (M : zM) : Nat → Int32 → Int32 → Int32 → Option (Int32 × Int32)
  | 0, _, _, _ => none
  | n + 1, x2, x3, x4 => if (M.1 5 4) ≤ x4 then (
    some (x2, x3))
    else (
    (fX11_hangs_L42 x4 M 4000 x2 x3 0).bind fun (q : Int32 × Int32) => zp q fun x2_95 x3_95 =>
    fX11_hangs_L27 M n x2_95 x3_95 (x4 + 1))
def fX11_hangs (x1 : Int32) (M : zM) : Option (Int32 × zM) := if (fX11_isDeed x1 M) = 0 then (
  some ((-1), M))
  else (
  zlet (zshl 1 x1) fun (x2_13 : Int32) =>
  if zin x1 6 then (
  zlet (M.1 8 x1.toNatClampNeg) fun (x3_23 : Int32) =>
  (fX11_hangs_L27 M 4000 x2_13 x3_23 0).bind fun (q : Int32 × Int32) => zp q fun x2_101 x3_101 =>
  zlet (fX3_begin M) fun (M105 : zM) =>
  (fX3_tell x3_101.toInt64 M105).bind fun (M114 : zM) =>
  some (x2_101, M114)) else none)
set_option maxHeartbeats 4000000 in
theorem lX11_hangs_42 {E : zE} {Γ : zT} {d : Nat} {K1 : (Int32 × Int32) → Prop} (hC : Cx E Γ RX11 cX11_hangs 6 d) (hd : 1 ≤ d) (x4 : Int32) (M : zM) (hx : ∀ (x2_95 : Int32) (x3_95 : Int32), K1 (x2_95, x3_95) → G E Γ 6 95 [(0, .ref 0), (2, .int x2_95), (3, .int x3_95), (4, .int x4)] [] M) :
    ∀ (n : Nat) (x2 : Int32) (x3 : Int32) (x5 : Int32), wpO (fX11_hangs_L42 x4 M n x2 x3 x5) K1 → G E Γ 6 42 [(0, .ref 0), (2, .int x2), (3, .int x3), (4, .int x4), (5, .int x5)] [] M := by
  intro n
  induction n with
  | zero =>
    intro x2 x3 x5 h
    exact (wpO_0 h).elim
  | succ n ih =>
    intro x2 x3 x5 h
    rw [fX11_hangs_L42.eq_2] at h
    refine g_iload (i := 5) (x := x5) hC (dX11_hangs_42) rfl ?_
    refine g_aload_n (i := 0) (x := 0) hC (dX11_hangs_44) rfl rfl ?_
    refine g_getR (r := 5) hC flX11_26 (dX11_hangs_45) rfl rfl rfl ?_
    refine g_getI hC flX11_151 (dX11_hangs_48) rfl rfl ?_
    refine g_icmp_ge (tgt := 95) hC (dX11_hangs_51) (by decide) (fun c51 => ?_) (fun c51 => ?_)
    · have h := wpO_t c51 h
      refine g_sub (lv' := [(0, .ref 0), (2, .int x2), (3, .int x3), (4, .int x4)]) [0, 1, 2, 3] rfl ?_
      exact hx _ _ (wpO_s h)
    · have h := wpO_f c51 h
      refine g_aload_n (i := 0) (x := 0) hC (dX11_hangs_54) rfl rfl ?_
      refine g_getR (r := 5) hC flX11_26 (dX11_hangs_55) rfl rfl rfl ?_
      refine g_getR (r := 8) hC flX11_148 (dX11_hangs_58) rfl rfl rfl ?_
      refine g_iload (i := 5) (x := x5) hC (dX11_hangs_61) rfl ?_
      obtain ⟨q3, h⟩ := wpO_g h
      refine g_iaload (n := 6) hC (dX11_hangs_63) rfl q3 ?_
      refine g_iload_n (i := 3) (x := x3) hC (dX11_hangs_64) rfl rfl ?_
      refine g_iand hC (dX11_hangs_65) ?_
      obtain ⟨x2_89, e_x2_89, h⟩ := wpO_l h
      obtain ⟨x3_89, e_x3_89, h⟩ := wpO_l h
      have hJ4 : G E Γ 6 89 [(0, .ref 0), (2, .int x2_89), (3, .int x3_89), (4, .int x4), (5, .int x5)] [] M := by
        refine g_iinc (x := x5) (v := (x5 + 1)) (lv2 := [(5, .int (x5 + 1)), (0, .ref 0), (2, .int x2_89), (3, .int x3_89), (4, .int x4)]) hC (dX11_hangs_89) rfl rfl (by decide) rfl ?_
        refine g_goto (tgt := 42) hC (dX11_hangs_92) (by decide) ?_
        refine g_sub (lv' := [(0, .ref 0), (2, .int x2_89), (3, .int x3_89), (4, .int x4), (5, .int (x5 + 1))]) [1, 2, 3, 4, 0] rfl ?_
        exact ih _ _ _ h
      refine g_if_eq (tgt := 89) hC (dX11_hangs_66) (by decide) (fun c66 => ?_) (fun c66 => ?_)
      · rw [if_pos c66] at e_x2_89 e_x3_89
        subst e_x2_89
        subst e_x3_89
        exact hJ4
      · rw [if_neg c66] at e_x2_89 e_x3_89
        refine g_iload_n (i := 2) (x := x2) hC (dX11_hangs_69) rfl rfl ?_
        refine g_iconst (v := 1) hC (dX11_hangs_70) kc_1 ?_
        refine g_iload (i := 5) (x := x5) hC (dX11_hangs_71) rfl ?_
        refine g_ishl hC (dX11_hangs_73) ?_
        refine g_ior hC (dX11_hangs_74) ?_
        refine g_nmi (fun x2_75 e_x2_75 => ?_)
        have e_x2_89 := zle e_x2_75 e_x2_89
        have e_x3_89 := zle e_x2_75 e_x3_89
        refine g_istore_n (i := 2) (lv2 := [(2, .int x2_75), (0, .ref 0), (3, .int x3), (4, .int x4), (5, .int x5)]) hC (dX11_hangs_75) rfl (by decide) rfl ?_
        refine g_iload_n (i := 3) (x := x3) hC (dX11_hangs_76) rfl rfl ?_
        refine g_aload_n (i := 0) (x := 0) hC (dX11_hangs_77) rfl rfl ?_
        refine g_getR (r := 5) hC flX11_26 (dX11_hangs_78) rfl rfl rfl ?_
        refine g_getR (r := 8) hC flX11_148 (dX11_hangs_81) rfl rfl rfl ?_
        refine g_iload (i := 5) (x := x5) hC (dX11_hangs_84) rfl ?_
        refine g_iaload (n := 6) hC (dX11_hangs_86) rfl q3 ?_
        refine g_ior hC (dX11_hangs_87) ?_
        refine g_nmi (fun x3_88 e_x3_88 => ?_)
        have e_x2_89 := zle e_x3_88 e_x2_89
        have e_x3_89 := zle e_x3_88 e_x3_89
        refine g_istore_n (i := 3) (lv2 := [(3, .int x3_88), (2, .int x2_75), (0, .ref 0), (4, .int x4), (5, .int x5)]) hC (dX11_hangs_88) rfl (by decide) rfl ?_
        refine g_sub (lv' := [(0, .ref 0), (2, .int x2_75), (3, .int x3_88), (4, .int x4), (5, .int x5)]) [2, 1, 0, 3, 4] rfl ?_
        subst e_x2_89
        subst e_x3_89
        exact hJ4
set_option maxHeartbeats 4000000 in
theorem lX11_hangs_27 {E : zE} {Γ : zT} {d : Nat} {K1 : (Int32 × Int32) → Prop} (hC : Cx E Γ RX11 cX11_hangs 6 d) (hd : 1 ≤ d) (M : zM) (hx : ∀ (x2_101 : Int32) (x3_101 : Int32), K1 (x2_101, x3_101) → G E Γ 6 101 [(0, .ref 0), (2, .int x2_101), (3, .int x3_101)] [] M) :
    ∀ (n : Nat) (x2 : Int32) (x3 : Int32) (x4 : Int32), wpO (fX11_hangs_L27 M n x2 x3 x4) K1 → G E Γ 6 27 [(0, .ref 0), (2, .int x2), (3, .int x3), (4, .int x4)] [] M := by
  intro n
  induction n with
  | zero =>
    intro x2 x3 x4 h
    exact (wpO_0 h).elim
  | succ n ih =>
    intro x2 x3 x4 h
    rw [fX11_hangs_L27.eq_2] at h
    refine g_iload (i := 4) (x := x4) hC (dX11_hangs_27) rfl ?_
    refine g_aload_n (i := 0) (x := 0) hC (dX11_hangs_29) rfl rfl ?_
    refine g_getR (r := 5) hC flX11_26 (dX11_hangs_30) rfl rfl rfl ?_
    refine g_getI hC flX11_151 (dX11_hangs_33) rfl rfl ?_
    refine g_icmp_ge (tgt := 101) hC (dX11_hangs_36) (by decide) (fun c36 => ?_) (fun c36 => ?_)
    · have h := wpO_t c36 h
      refine g_sub (lv' := [(0, .ref 0), (2, .int x2), (3, .int x3)]) [0, 1, 2] rfl ?_
      exact hx _ _ (wpO_s h)
    · have h := wpO_f c36 h
      refine g_iconst (v := 0) hC (dX11_hangs_39) kc_0 ?_
      refine g_istore (i := 5) (lv2 := [(5, .int 0), (0, .ref 0), (2, .int x2), (3, .int x3), (4, .int x4)]) hC (dX11_hangs_40) (by decide) rfl ?_
      refine g_sub (lv' := [(0, .ref 0), (2, .int x2), (3, .int x3), (4, .int x4), (5, .int 0)]) [1, 2, 3, 4, 0] rfl ?_
      refine wpO_bJ h (fun KL42 hKL42 h => ?_)
      refine lX11_hangs_42 (K1 := KL42) hC (by omega) x4 M (fun x2_95 x3_95 h => ?_) _ _ _ _ h
      have h := hKL42 _ h
      have h := wpO_p h
      refine g_iinc (x := x4) (v := (x4 + 1)) (lv2 := [(4, .int (x4 + 1)), (0, .ref 0), (2, .int x2_95), (3, .int x3_95)]) hC (dX11_hangs_95) rfl rfl (by decide) rfl ?_
      refine g_goto (tgt := 27) hC (dX11_hangs_98) (by decide) ?_
      refine g_sub (lv' := [(0, .ref 0), (2, .int x2_95), (3, .int x3_95), (4, .int (x4 + 1))]) [1, 2, 3, 0] rfl ?_
      exact ih _ _ _ h
set_option maxHeartbeats 4000000 in
theorem cX11_hangs_ok {E : zE} {d : Nat} (hd : 1 ≤ d) (x1 : Int32) (M : zM) {K : (Int32 × zM) → Prop} (h : wpO (fX11_hangs x1 M) K) : CMi E d yX11_hangs cX11_hangs 6 (some .int) [.ref 0, .int x1] M (fun r N => K (r, N)) := by
  refine CMi.of (by decide) (Nat.le_of_ble_eq_true rfl) (fun Γ hC hr => ?_)
  have hC : Cx E Γ RX11 cX11_hangs 6 d := hC
  show G E Γ 6 0 [(0, .ref 0), (1, .int x1)] [] M
  unfold fX11_hangs at h
  refine g_aload_n (i := 0) (x := 0) hC (dX11_hangs_0) rfl rfl ?_
  refine g_iload_n (i := 1) (x := x1) hC (dX11_hangs_1) rfl rfl ?_
  refine g_callVi ([.int x1]) hC wvX11_199 (dX11_hangs_2) rfl rfl (by omega) (Nat.le_of_ble_eq_true rfl) (cX11_isDeed_ok (by omega) x1 M (K := fun r => r = fX11_isDeed x1 M) rfl) (fun r N q => ?_)
  obtain ⟨rfl, rfl⟩ := q
  refine g_if_ne (tgt := 10) hC (dX11_hangs_5) (by decide) (fun c5 => ?_) (fun c5 => ?_)
  · have h := wpO_f c5 h
    refine g_iconst (v := 1) hC (dX11_hangs_10) kc_1 ?_
    refine g_iload_n (i := 1) (x := x1) hC (dX11_hangs_11) rfl rfl ?_
    refine g_ishl hC (dX11_hangs_12) ?_
    refine g_nmi (fun x2_13 e_x2_13 => ?_)
    have h := wpO_n e_x2_13 h
    refine g_istore_n (i := 2) (lv2 := [(2, .int x2_13), (0, .ref 0), (1, .int x1)]) hC (dX11_hangs_13) rfl (by decide) rfl ?_
    refine g_aload_n (i := 0) (x := 0) hC (dX11_hangs_14) rfl rfl ?_
    refine g_getR (r := 5) hC flX11_26 (dX11_hangs_15) rfl rfl rfl ?_
    refine g_getR (r := 8) hC flX11_148 (dX11_hangs_18) rfl rfl rfl ?_
    refine g_iload_n (i := 1) (x := x1) hC (dX11_hangs_21) rfl rfl ?_
    obtain ⟨q2, h⟩ := wpO_g h
    refine g_iaload (n := 6) hC (dX11_hangs_22) rfl q2 ?_
    refine g_nmi (fun x3_23 e_x3_23 => ?_)
    have h := wpO_n e_x3_23 h
    refine g_istore_n (i := 3) (lv2 := [(3, .int x3_23), (2, .int x2_13), (0, .ref 0), (1, .int x1)]) hC (dX11_hangs_23) rfl (by decide) rfl ?_
    refine g_iconst (v := 0) hC (dX11_hangs_24) kc_0 ?_
    refine g_istore (i := 4) (lv2 := [(4, .int 0), (3, .int x3_23), (2, .int x2_13), (0, .ref 0), (1, .int x1)]) hC (dX11_hangs_25) (by decide) rfl ?_
    refine g_sub (lv' := [(0, .ref 0), (2, .int x2_13), (3, .int x3_23), (4, .int 0)]) [3, 2, 1, 0] rfl ?_
    refine wpO_bJ h (fun KL27 hKL27 h => ?_)
    refine lX11_hangs_27 (K1 := KL27) hC (by omega) M (fun x2_101 x3_101 h => ?_) _ _ _ _ h
    have h := hKL27 _ h
    have h := wpO_p h
    refine g_aload_n (i := 0) (x := 0) hC (dX11_hangs_101) rfl rfl ?_
    refine g_getR (r := 3) hC flX11_19 (dX11_hangs_102) rfl rfl rfl ?_
    refine g_callVv ([]) hC wvX11_230 (dX11_hangs_105) rfl rfl (by omega) (Nat.le_of_ble_eq_true rfl) (cX3_begin_ok (by omega) M (K := fun r => r = fX3_begin M) rfl) (fun N q => ?_)
    subst q
    refine g_nmM (fun M105 e_M105 => ?_)
    have h := wpO_n e_M105 h
    refine g_aload_n (i := 0) (x := 0) hC (dX11_hangs_108) rfl rfl ?_
    refine g_getR (r := 3) hC flX11_19 (dX11_hangs_109) rfl rfl rfl ?_
    refine g_iload_n (i := 3) (x := x3_101) hC (dX11_hangs_112) rfl rfl ?_
    refine g_i2l hC (dX11_hangs_113) ?_
    have h := wpO_b h
    refine g_callVv ([.long x3_101.toInt64]) hC wvX11_233 (dX11_hangs_114) rfl rfl (by omega) (Nat.le_of_ble_eq_true rfl) (cX3_tell_ok (by omega) x3_101.toInt64 M105 h) (fun M114 h => ?_)
    refine g_iload_n (i := 2) (x := x2_101) hC (dX11_hangs_117) rfl rfl ?_
    refine g_ireturn hC hr (dX11_hangs_118) ?_
    exact wpO_s h
  · have h := wpO_t c5 h
    refine g_iconst (v := (-1)) hC (dX11_hangs_8) kc_m1 ?_
    refine g_ireturn hC hr (dX11_hangs_9) ?_
    exact wpO_s h
/-! LostByState.power(JI)J -/
theorem dX11_power_0 : decode cX11_power 0 = .ok (.lconst 1, 1) := by decide +kernel
theorem dX11_power_1 : decode cX11_power 1 = .ok (.lstore_n 3, 1) := by decide +kernel
theorem dX11_power_2 : decode cX11_power 2 = .ok (.iconst 0, 1) := by decide +kernel
theorem dX11_power_3 : decode cX11_power 3 = .ok (.istore 5, 2) := by decide +kernel
theorem dX11_power_5 : decode cX11_power 5 = .ok (.iload 5, 2) := by decide +kernel
theorem dX11_power_7 : decode cX11_power 7 = .ok (.iload_n 2, 1) := by decide +kernel
theorem dX11_power_8 : decode cX11_power 8 = .ok (.if_icmp .ge 13, 3) := by decide +kernel
theorem dX11_power_11 : decode cX11_power 11 = .ok (.lload_n 3, 1) := by decide +kernel
theorem dX11_power_12 : decode cX11_power 12 = .ok (.lload_n 0, 1) := by decide +kernel
theorem dX11_power_13 : decode cX11_power 13 = .ok (.lmul, 1) := by decide +kernel
theorem dX11_power_14 : decode cX11_power 14 = .ok (.lstore_n 3, 1) := by decide +kernel
theorem dX11_power_15 : decode cX11_power 15 = .ok (.iinc 5 1, 3) := by decide +kernel
theorem dX11_power_18 : decode cX11_power 18 = .ok (.goto (-13), 3) := by decide +kernel
theorem dX11_power_21 : decode cX11_power 21 = .ok (.lload_n 3, 1) := by decide +kernel
theorem dX11_power_22 : decode cX11_power 22 = .ok (.lreturn, 1) := by decide +kernel
def fX11_power_L5 (x0 : Int64) (x2 : Int32) : Nat → Int64 → Int32 → Option Int64
  | 0, _, _ => none
  | n + 1, x3, x5 => if x2 ≤ x5 then (
    some x3)
    else (
    zlet (x3 * x0) fun (x3_14 : Int64) =>
    fX11_power_L5 x0 x2 n x3_14 (x5 + 1))
def fX11_power (x0 : Int64) (x2 : Int32) : Option Int64 := (fX11_power_L5 x0 x2 4000 1 0).bind fun (x3_21 : Int64) =>
  some x3_21
set_option maxHeartbeats 4000000 in
theorem lX11_power_5 {E : zE} {Γ : zT} {d : Nat} {K1 : Int64 → Prop} (hC : Cx E Γ RX11 cX11_power 6 d) (hd : 0 ≤ d) (x0 : Int64) (x2 : Int32) (M : zM) (hx : ∀ (x3_21 : Int64), K1 x3_21 → G E Γ 6 21 [(3, .long x3_21)] [] M) :
    ∀ (n : Nat) (x3 : Int64) (x5 : Int32), wpO (fX11_power_L5 x0 x2 n x3 x5) K1 → G E Γ 6 5 [(0, .long x0), (2, .int x2), (3, .long x3), (5, .int x5)] [] M := by
  intro n
  induction n with
  | zero =>
    intro x3 x5 h
    exact (wpO_0 h).elim
  | succ n ih =>
    intro x3 x5 h
    rw [fX11_power_L5.eq_2] at h
    refine g_iload (i := 5) (x := x5) hC (dX11_power_5) rfl ?_
    refine g_iload_n (i := 2) (x := x2) hC (dX11_power_7) rfl rfl ?_
    refine g_icmp_ge (tgt := 21) hC (dX11_power_8) (by decide) (fun c8 => ?_) (fun c8 => ?_)
    · have h := wpO_t c8 h
      refine g_sub (lv' := [(3, .long x3)]) [2] rfl ?_
      exact hx _ (wpO_s h)
    · have h := wpO_f c8 h
      refine g_lload_n (i := 3) (x := x3) hC (dX11_power_11) rfl rfl ?_
      refine g_lload_n (i := 0) (x := x0) hC (dX11_power_12) rfl rfl ?_
      refine g_lmul hC (dX11_power_13) ?_
      refine g_nml (fun x3_14 e_x3_14 => ?_)
      have h := wpO_n e_x3_14 h
      refine g_lstore_n (i := 3) (lv2 := [(3, .long x3_14), (0, .long x0), (2, .int x2), (5, .int x5)]) hC (dX11_power_14) rfl (by decide) rfl ?_
      refine g_iinc (x := x5) (v := (x5 + 1)) (lv2 := [(5, .int (x5 + 1)), (3, .long x3_14), (0, .long x0), (2, .int x2)]) hC (dX11_power_15) rfl rfl (by decide) rfl ?_
      refine g_goto (tgt := 5) hC (dX11_power_18) (by decide) ?_
      refine g_sub (lv' := [(0, .long x0), (2, .int x2), (3, .long x3_14), (5, .int (x5 + 1))]) [2, 3, 1, 0] rfl ?_
      exact ih _ _ h
set_option maxHeartbeats 4000000 in
theorem cX11_power_ok {E : zE} {d : Nat} (hd : 0 ≤ d) (x0 : Int64) (x2 : Int32) (M : zM) {K : Int64 → Prop} (h : wpO (fX11_power x0 x2) K) : CMl E d yX11_power cX11_power 6 (some .long) [.long x0, .int x2] M (fun r N => M = N ∧ K r) := by
  refine CMl.of (by decide) (Nat.le_of_ble_eq_true rfl) (fun Γ hC hr => ?_)
  have hC : Cx E Γ RX11 cX11_power 6 d := hC
  show G E Γ 6 0 [(0, .long x0), (2, .int x2)] [] M
  unfold fX11_power at h
  refine g_lconst (v := 1) hC (dX11_power_0) kl_1 ?_
  refine g_lstore_n (i := 3) (lv2 := [(3, .long 1), (0, .long x0), (2, .int x2)]) hC (dX11_power_1) rfl (by decide) rfl ?_
  refine g_iconst (v := 0) hC (dX11_power_2) kc_0 ?_
  refine g_istore (i := 5) (lv2 := [(5, .int 0), (3, .long 1), (0, .long x0), (2, .int x2)]) hC (dX11_power_3) (by decide) rfl ?_
  refine g_sub (lv' := [(0, .long x0), (2, .int x2), (3, .long 1), (5, .int 0)]) [2, 3, 1, 0] rfl ?_
  refine wpO_bJ h (fun KL5 hKL5 h => ?_)
  refine lX11_power_5 (K1 := KL5) hC (by omega) x0 x2 M (fun x3_21 h => ?_) _ _ _ h
  have h := hKL5 _ h
  refine g_lload_n (i := 3) (x := x3_21) hC (dX11_power_21) rfl rfl ?_
  refine g_lreturn hC hr (dX11_power_22) ?_
  exact ⟨rfl, wpO_s h⟩
/-! LostByState.likely(II)I -/
theorem dX11_likely_0 : decode cX11_likely 0 = .ok (.iload_n 1, 1) := by decide +kernel
theorem dX11_likely_1 : decode cX11_likely 1 = .ok (.ifCond .lt 19, 3) := by decide +kernel
theorem dX11_likely_4 : decode cX11_likely 4 = .ok (.iload_n 1, 1) := by decide +kernel
theorem dX11_likely_5 : decode cX11_likely 5 = .ok (.bipush 6, 2) := by decide +kernel
theorem dX11_likely_7 : decode cX11_likely 7 = .ok (.if_icmp .gt 13, 3) := by decide +kernel
theorem dX11_likely_10 : decode cX11_likely 10 = .ok (.iload_n 2, 1) := by decide +kernel
theorem dX11_likely_11 : decode cX11_likely 11 = .ok (.ifCond .lt 9, 3) := by decide +kernel
theorem dX11_likely_14 : decode cX11_likely 14 = .ok (.iload_n 2, 1) := by decide +kernel
theorem dX11_likely_15 : decode cX11_likely 15 = .ok (.bipush 10, 2) := by decide +kernel
theorem dX11_likely_17 : decode cX11_likely 17 = .ok (.if_icmp .le 5, 3) := by decide +kernel
theorem dX11_likely_20 : decode cX11_likely 20 = .ok (.iconst (-1), 1) := by decide +kernel
theorem dX11_likely_21 : decode cX11_likely 21 = .ok (.ireturn, 1) := by decide +kernel
theorem dX11_likely_22 : decode cX11_likely 22 = .ok (.aload_n 0, 1) := by decide +kernel
theorem dX11_likely_23 : decode cX11_likely 23 = .ok (.getfield 33, 3) := by decide +kernel
theorem dX11_likely_26 : decode cX11_likely 26 = .ok (.bipush 6, 2) := by decide +kernel
theorem dX11_likely_28 : decode cX11_likely 28 = .ok (.invokevirtual 204, 3) := by decide +kernel
theorem dX11_likely_31 : decode cX11_likely 31 = .ok (.istore_n 3, 1) := by decide +kernel
theorem dX11_likely_32 : decode cX11_likely 32 = .ok (.iload_n 3, 1) := by decide +kernel
theorem dX11_likely_33 : decode cX11_likely 33 = .ok (.invokestatic 240, 3) := by decide +kernel
theorem dX11_likely_36 : decode cX11_likely 36 = .ok (.istore 4, 2) := by decide +kernel
theorem dX11_likely_38 : decode cX11_likely 38 = .ok (.lconst 0, 1) := by decide +kernel
theorem dX11_likely_39 : decode cX11_likely 39 = .ok (.lstore 5, 2) := by decide +kernel
theorem dX11_likely_41 : decode cX11_likely 41 = .ok (.iconst 0, 1) := by decide +kernel
theorem dX11_likely_42 : decode cX11_likely 42 = .ok (.istore 7, 2) := by decide +kernel
theorem dX11_likely_44 : decode cX11_likely 44 = .ok (.iload 7, 2) := by decide +kernel
theorem dX11_likely_46 : decode cX11_likely 46 = .ok (.iload_n 3, 1) := by decide +kernel
theorem dX11_likely_47 : decode cX11_likely 47 = .ok (.if_icmp .gt 79, 3) := by decide +kernel
theorem dX11_likely_50 : decode cX11_likely 50 = .ok (.iload 7, 2) := by decide +kernel
theorem dX11_likely_52 : decode cX11_likely 52 = .ok (.iload_n 3, 1) := by decide +kernel
theorem dX11_likely_53 : decode cX11_likely 53 = .ok (.iconst (-1), 1) := by decide +kernel
theorem dX11_likely_54 : decode cX11_likely 54 = .ok (.ixor, 1) := by decide +kernel
theorem dX11_likely_55 : decode cX11_likely 55 = .ok (.iand, 1) := by decide +kernel
theorem dX11_likely_56 : decode cX11_likely 56 = .ok (.ifCond .ne 23, 3) := by decide +kernel
theorem dX11_likely_59 : decode cX11_likely 59 = .ok (.aload_n 0, 1) := by decide +kernel
theorem dX11_likely_60 : decode cX11_likely 60 = .ok (.getfield 26, 3) := by decide +kernel
theorem dX11_likely_63 : decode cX11_likely 63 = .ok (.iload 7, 2) := by decide +kernel
theorem dX11_likely_65 : decode cX11_likely 65 = .ok (.invokevirtual 237, 3) := by decide +kernel
theorem dX11_likely_68 : decode cX11_likely 68 = .ok (.invokestatic 240, 3) := by decide +kernel
theorem dX11_likely_71 : decode cX11_likely 71 = .ok (.iload_n 1, 1) := by decide +kernel
theorem dX11_likely_72 : decode cX11_likely 72 = .ok (.if_icmp .lt 7, 3) := by decide +kernel
theorem dX11_likely_75 : decode cX11_likely 75 = .ok (.iconst 1, 1) := by decide +kernel
theorem dX11_likely_76 : decode cX11_likely 76 = .ok (.goto 4, 3) := by decide +kernel
theorem dX11_likely_79 : decode cX11_likely 79 = .ok (.iconst 0, 1) := by decide +kernel
theorem dX11_likely_80 : decode cX11_likely 80 = .ok (.istore 8, 2) := by decide +kernel
theorem dX11_likely_82 : decode cX11_likely 82 = .ok (.iload 8, 2) := by decide +kernel
theorem dX11_likely_84 : decode cX11_likely 84 = .ok (.ifCond .eq 36, 3) := by decide +kernel
theorem dX11_likely_87 : decode cX11_likely 87 = .ok (.iload 7, 2) := by decide +kernel
theorem dX11_likely_89 : decode cX11_likely 89 = .ok (.invokestatic 240, 3) := by decide +kernel
theorem dX11_likely_92 : decode cX11_likely 92 = .ok (.istore 9, 2) := by decide +kernel
theorem dX11_likely_94 : decode cX11_likely 94 = .ok (.lload 5, 2) := by decide +kernel
theorem dX11_likely_96 : decode cX11_likely 96 = .ok (.bipush 10, 2) := by decide +kernel
theorem dX11_likely_98 : decode cX11_likely 98 = .ok (.iload_n 2, 1) := by decide +kernel
theorem dX11_likely_99 : decode cX11_likely 99 = .ok (.isub, 1) := by decide +kernel
theorem dX11_likely_100 : decode cX11_likely 100 = .ok (.i2l, 1) := by decide +kernel
theorem dX11_likely_101 : decode cX11_likely 101 = .ok (.iload 9, 2) := by decide +kernel
theorem dX11_likely_103 : decode cX11_likely 103 = .ok (.invokestatic 381, 3) := by decide +kernel
theorem dX11_likely_106 : decode cX11_likely 106 = .ok (.iload_n 2, 1) := by decide +kernel
theorem dX11_likely_107 : decode cX11_likely 107 = .ok (.i2l, 1) := by decide +kernel
theorem dX11_likely_108 : decode cX11_likely 108 = .ok (.iload 4, 2) := by decide +kernel
theorem dX11_likely_110 : decode cX11_likely 110 = .ok (.iload 9, 2) := by decide +kernel
theorem dX11_likely_112 : decode cX11_likely 112 = .ok (.isub, 1) := by decide +kernel
theorem dX11_likely_113 : decode cX11_likely 113 = .ok (.invokestatic 381, 3) := by decide +kernel
theorem dX11_likely_116 : decode cX11_likely 116 = .ok (.lmul, 1) := by decide +kernel
theorem dX11_likely_117 : decode cX11_likely 117 = .ok (.ladd, 1) := by decide +kernel
theorem dX11_likely_118 : decode cX11_likely 118 = .ok (.lstore 5, 2) := by decide +kernel
theorem dX11_likely_120 : decode cX11_likely 120 = .ok (.iinc 7 1, 3) := by decide +kernel
theorem dX11_likely_123 : decode cX11_likely 123 = .ok (.goto (-79), 3) := by decide +kernel
theorem dX11_likely_126 : decode cX11_likely 126 = .ok (.aload_n 0, 1) := by decide +kernel
theorem dX11_likely_127 : decode cX11_likely 127 = .ok (.getfield 19, 3) := by decide +kernel
theorem dX11_likely_130 : decode cX11_likely 130 = .ok (.invokevirtual 230, 3) := by decide +kernel
theorem dX11_likely_133 : decode cX11_likely 133 = .ok (.aload_n 0, 1) := by decide +kernel
theorem dX11_likely_134 : decode cX11_likely 134 = .ok (.getfield 19, 3) := by decide +kernel
theorem dX11_likely_137 : decode cX11_likely 137 = .ok (.lload 5, 2) := by decide +kernel
theorem dX11_likely_139 : decode cX11_likely 139 = .ok (.ldc2_w 385, 3) := by decide +kernel
theorem dX11_likely_142 : decode cX11_likely 142 = .ok (.iload 4, 2) := by decide +kernel
theorem dX11_likely_144 : decode cX11_likely 144 = .ok (.invokestatic 381, 3) := by decide +kernel
theorem dX11_likely_147 : decode cX11_likely 147 = .ok (.invokevirtual 372, 3) := by decide +kernel
theorem dX11_likely_150 : decode cX11_likely 150 = .ok (.iconst 0, 1) := by decide +kernel
theorem dX11_likely_151 : decode cX11_likely 151 = .ok (.ireturn, 1) := by decide +kernel
def fX11_likely_L44 (x1 : Int32) (x2 : Int32) (x3 : Int32) (x4 : Int32) (M : zM) : Nat → Int64 → Int32 → Option Int64
  | 0, _, _ => none
  | n + 1, x5, x7 => if x3 < x7 then (
    some x5)
    else (
    (if (x7 &&& (x3 ^^^ (-1))) = 0 then (
    (fX7_doableWith x7 M).bind fun (r4 : Int32) =>
    if (fJ6_bitCount_0f7a4 r4) < x1 then (
    some 0)
    else (
    some 1))
    else (
    some 0) : Option Int32).bind fun (s0_80 : Int32) =>
    (if s0_80 = 0 then (
    some x5)
    else (
    zlet (fJ6_bitCount_0f7a4 x7) fun (x9_92 : Int32) =>
    (fX11_power ((10 - x2).toInt64) x9_92).bind fun (r8 : Int64) =>
    (fX11_power x2.toInt64 (x4 - x9_92)).bind fun (r9 : Int64) =>
    zlet (x5 + (r8 * r9)) fun (x5_118 : Int64) =>
    some x5_118) : Option Int64).bind fun (x5_120 : Int64) =>
    fX11_likely_L44 x1 x2 x3 x4 M n x5_120 (x7 + 1))
def fX11_likely (x1 : Int32) (x2 : Int32) (M : zM) : Option (Int32 × zM) := if x1 < 0 then (
  some ((-1), M))
  else (
  if 6 < x1 then (
  some ((-1), M))
  else (
  if x2 < 0 then (
  some ((-1), M))
  else (
  if x2 ≤ 10 then (
  (fX10_heldBy 60 6 M).bind fun (r1 : Int32) =>
  zlet (fJ6_bitCount_0f7a4 r1) fun (x4_36 : Int32) =>
  (fX11_likely_L44 x1 x2 r1 x4_36 M 4000 0 0).bind fun (x5_126 : Int64) =>
  zlet (fX3_begin M) fun (M130 : zM) =>
  (fX11_power 10 x4_36).bind fun (r11 : Int64) =>
  (fX3_tellFraction x5_126 r11 M130).bind fun (M147 : zM) =>
  some (0, M147))
  else (
  some ((-1), M)))))
set_option maxHeartbeats 4000000 in
theorem lX11_likely_44 {E : zE} {Γ : zT} {d : Nat} {K1 : Int64 → Prop} (hC : Cx E Γ RX11 cX11_likely 10 d) (hd : 2 ≤ d) (x1 : Int32) (x2 : Int32) (x3 : Int32) (x4 : Int32) (M : zM) (hx : ∀ (x5_126 : Int64), K1 x5_126 → G E Γ 10 126 [(0, .ref 0), (4, .int x4), (5, .long x5_126)] [] M) :
    ∀ (n : Nat) (x5 : Int64) (x7 : Int32), wpO (fX11_likely_L44 x1 x2 x3 x4 M n x5 x7) K1 → G E Γ 10 44 [(0, .ref 0), (1, .int x1), (2, .int x2), (3, .int x3), (4, .int x4), (5, .long x5), (7, .int x7)] [] M := by
  intro n
  induction n with
  | zero =>
    intro x5 x7 h
    exact (wpO_0 h).elim
  | succ n ih =>
    intro x5 x7 h
    rw [fX11_likely_L44.eq_2] at h
    refine g_iload (i := 7) (x := x7) hC (dX11_likely_44) rfl ?_
    refine g_iload_n (i := 3) (x := x3) hC (dX11_likely_46) rfl rfl ?_
    refine g_icmp_gt (tgt := 126) hC (dX11_likely_47) (by decide) (fun c47 => ?_) (fun c47 => ?_)
    · have h := wpO_t c47 h
      refine g_sub (lv' := [(0, .ref 0), (4, .int x4), (5, .long x5)]) [0, 4, 5] rfl ?_
      exact hx _ (wpO_s h)
    · have h := wpO_f c47 h
      refine g_iload (i := 7) (x := x7) hC (dX11_likely_50) rfl ?_
      refine g_iload_n (i := 3) (x := x3) hC (dX11_likely_52) rfl rfl ?_
      refine g_iconst (v := (-1)) hC (dX11_likely_53) kc_m1 ?_
      refine g_ixor hC (dX11_likely_54) ?_
      refine g_iand hC (dX11_likely_55) ?_
      refine wpO_bJ h (fun KJ3 hKJ3 h => ?_)
      have hJ3 : ∀ (s0_80 : Int32), KJ3 s0_80 → G E Γ 10 80 [(0, .ref 0), (1, .int x1), (2, .int x2), (3, .int x3), (4, .int x4), (5, .long x5), (7, .int x7)] [.int s0_80] M := by
        intro s0_80 h
        have h := hKJ3 _ h
        refine g_istore (i := 8) (lv2 := [(8, .int s0_80), (0, .ref 0), (1, .int x1), (2, .int x2), (3, .int x3), (4, .int x4), (5, .long x5), (7, .int x7)]) hC (dX11_likely_80) (by decide) rfl ?_
        refine g_iload (i := 8) (x := s0_80) hC (dX11_likely_82) rfl ?_
        refine wpO_bJ h (fun KJ6 hKJ6 h => ?_)
        have hJ6 : ∀ (x5_120 : Int64), KJ6 x5_120 → G E Γ 10 120 [(0, .ref 0), (1, .int x1), (2, .int x2), (3, .int x3), (4, .int x4), (5, .long x5_120), (7, .int x7)] [] M := by
          intro x5_120 h
          have h := hKJ6 _ h
          refine g_iinc (x := x7) (v := (x7 + 1)) (lv2 := [(7, .int (x7 + 1)), (0, .ref 0), (1, .int x1), (2, .int x2), (3, .int x3), (4, .int x4), (5, .long x5_120)]) hC (dX11_likely_120) rfl rfl (by decide) rfl ?_
          refine g_goto (tgt := 44) hC (dX11_likely_123) (by decide) ?_
          refine g_sub (lv' := [(0, .ref 0), (1, .int x1), (2, .int x2), (3, .int x3), (4, .int x4), (5, .long x5_120), (7, .int (x7 + 1))]) [1, 2, 3, 4, 5, 6, 0] rfl ?_
          exact ih _ _ h
        refine g_if_eq (tgt := 120) hC (dX11_likely_84) (by decide) (fun c84 => ?_) (fun c84 => ?_)
        · have h := wpO_t c84 h
          refine g_sub (lv' := [(0, .ref 0), (1, .int x1), (2, .int x2), (3, .int x3), (4, .int x4), (5, .long x5), (7, .int x7)]) [1, 2, 3, 4, 5, 6, 7] rfl ?_
          exact hJ6 _ (wpO_s h)
        · have h := wpO_f c84 h
          refine g_iload (i := 7) (x := x7) hC (dX11_likely_87) rfl ?_
          refine g_callSi ([.int x7]) hC wsX11_240 (dX11_likely_89) rfl (by omega) (Nat.le_of_ble_eq_true rfl) (cJ6_bitCount_0f7a4_ok (by omega) x7 M (K := fun r => r = fJ6_bitCount_0f7a4 x7) rfl) (fun r N q => ?_)
          obtain ⟨rfl, rfl⟩ := q
          refine g_nmi (fun x9_92 e_x9_92 => ?_)
          have h := wpO_n e_x9_92 h
          refine g_istore (i := 9) (lv2 := [(9, .int x9_92), (8, .int s0_80), (0, .ref 0), (1, .int x1), (2, .int x2), (3, .int x3), (4, .int x4), (5, .long x5), (7, .int x7)]) hC (dX11_likely_92) (by decide) rfl ?_
          refine g_lload (i := 5) (x := x5) hC (dX11_likely_94) rfl ?_
          refine g_bipush (v := 10) hC (dX11_likely_96) kb_10 ?_
          refine g_iload_n (i := 2) (x := x2) hC (dX11_likely_98) rfl rfl ?_
          refine g_isub hC (dX11_likely_99) ?_
          refine g_i2l hC (dX11_likely_100) ?_
          refine g_iload (i := 9) (x := x9_92) hC (dX11_likely_101) rfl ?_
          have h := wpO_b h
          refine g_callSl ([.long ((10 - x2).toInt64), .int x9_92]) hC wsX11_381 (dX11_likely_103) rfl (by omega) (Nat.le_of_ble_eq_true rfl) (cX11_power_ok (by omega) ((10 - x2).toInt64) x9_92 M h) (fun r8 N q => ?_)
          obtain ⟨rfl, h⟩ := q
          refine g_iload_n (i := 2) (x := x2) hC (dX11_likely_106) rfl rfl ?_
          refine g_i2l hC (dX11_likely_107) ?_
          refine g_iload (i := 4) (x := x4) hC (dX11_likely_108) rfl ?_
          refine g_iload (i := 9) (x := x9_92) hC (dX11_likely_110) rfl ?_
          refine g_isub hC (dX11_likely_112) ?_
          have h := wpO_b h
          refine g_callSl ([.long x2.toInt64, .int (x4 - x9_92)]) hC wsX11_381 (dX11_likely_113) rfl (by omega) (Nat.le_of_ble_eq_true rfl) (cX11_power_ok (by omega) x2.toInt64 (x4 - x9_92) M h) (fun r9 N q => ?_)
          obtain ⟨rfl, h⟩ := q
          refine g_lmul hC (dX11_likely_116) ?_
          refine g_ladd hC (dX11_likely_117) ?_
          refine g_nml (fun x5_118 e_x5_118 => ?_)
          have h := wpO_n e_x5_118 h
          refine g_lstore (i := 5) (lv2 := [(5, .long x5_118), (9, .int x9_92), (8, .int s0_80), (0, .ref 0), (1, .int x1), (2, .int x2), (3, .int x3), (4, .int x4), (7, .int x7)]) hC (dX11_likely_118) (by decide) rfl ?_
          refine g_sub (lv' := [(0, .ref 0), (1, .int x1), (2, .int x2), (3, .int x3), (4, .int x4), (5, .long x5_118), (7, .int x7)]) [3, 4, 5, 6, 7, 0, 8] rfl ?_
          exact hJ6 _ (wpO_s h)
      refine g_if_ne (tgt := 79) hC (dX11_likely_56) (by decide) (fun c56 => ?_) (fun c56 => ?_)
      · have h := wpO_f c56 h
        refine g_iconst (v := 0) hC (dX11_likely_79) kc_0 ?_
        exact hJ3 _ (wpO_s h)
      · have h := wpO_t c56 h
        refine g_aload_n (i := 0) (x := 0) hC (dX11_likely_59) rfl rfl ?_
        refine g_getR (r := 5) hC flX11_26 (dX11_likely_60) rfl rfl rfl ?_
        refine g_iload (i := 7) (x := x7) hC (dX11_likely_63) rfl ?_
        have h := wpO_b h
        refine g_callVi ([.int x7]) hC wvX11_237 (dX11_likely_65) rfl rfl (by omega) (Nat.le_of_ble_eq_true rfl) (cX7_doableWith_ok (by omega) x7 M h) (fun r4 N q => ?_)
        obtain ⟨rfl, h⟩ := q
        refine g_callSi ([.int r4]) hC wsX11_240 (dX11_likely_68) rfl (by omega) (Nat.le_of_ble_eq_true rfl) (cJ6_bitCount_0f7a4_ok (by omega) r4 M (K := fun r => r = fJ6_bitCount_0f7a4 r4) rfl) (fun r N q => ?_)
        obtain ⟨rfl, rfl⟩ := q
        refine g_iload_n (i := 1) (x := x1) hC (dX11_likely_71) rfl rfl ?_
        refine g_icmp_lt (tgt := 79) hC (dX11_likely_72) (by decide) (fun c72 => ?_) (fun c72 => ?_)
        · have h := wpO_t c72 h
          refine g_iconst (v := 0) hC (dX11_likely_79) kc_0 ?_
          exact hJ3 _ (wpO_s h)
        · have h := wpO_f c72 h
          refine g_iconst (v := 1) hC (dX11_likely_75) kc_1 ?_
          refine g_goto (tgt := 80) hC (dX11_likely_76) (by decide) ?_
          exact hJ3 _ (wpO_s h)
set_option maxHeartbeats 4000000 in
theorem cX11_likely_ok {E : zE} {d : Nat} (hd : 2 ≤ d) (x1 : Int32) (x2 : Int32) (M : zM) {K : (Int32 × zM) → Prop} (h : wpO (fX11_likely x1 x2 M) K) : CMi E d yX11_likely cX11_likely 10 (some .int) [.ref 0, .int x1, .int x2] M (fun r N => K (r, N)) := by
  refine CMi.of (by decide) (Nat.le_of_ble_eq_true rfl) (fun Γ hC hr => ?_)
  have hC : Cx E Γ RX11 cX11_likely 10 d := hC
  show G E Γ 10 0 [(0, .ref 0), (1, .int x1), (2, .int x2)] [] M
  unfold fX11_likely at h
  refine g_iload_n (i := 1) (x := x1) hC (dX11_likely_0) rfl rfl ?_
  refine g_if_lt (tgt := 20) hC (dX11_likely_1) (by decide) (fun c1 => ?_) (fun c1 => ?_)
  · have h := wpO_t c1 h
    refine g_iconst (v := (-1)) hC (dX11_likely_20) kc_m1 ?_
    refine g_ireturn hC hr (dX11_likely_21) ?_
    exact wpO_s h
  · have h := wpO_f c1 h
    refine g_iload_n (i := 1) (x := x1) hC (dX11_likely_4) rfl rfl ?_
    refine g_bipush (v := 6) hC (dX11_likely_5) kb_6 ?_
    refine g_icmp_gt (tgt := 20) hC (dX11_likely_7) (by decide) (fun c7 => ?_) (fun c7 => ?_)
    · have h := wpO_t c7 h
      refine g_iconst (v := (-1)) hC (dX11_likely_20) kc_m1 ?_
      refine g_ireturn hC hr (dX11_likely_21) ?_
      exact wpO_s h
    · have h := wpO_f c7 h
      refine g_iload_n (i := 2) (x := x2) hC (dX11_likely_10) rfl rfl ?_
      refine g_if_lt (tgt := 20) hC (dX11_likely_11) (by decide) (fun c11 => ?_) (fun c11 => ?_)
      · have h := wpO_t c11 h
        refine g_iconst (v := (-1)) hC (dX11_likely_20) kc_m1 ?_
        refine g_ireturn hC hr (dX11_likely_21) ?_
        exact wpO_s h
      · have h := wpO_f c11 h
        refine g_iload_n (i := 2) (x := x2) hC (dX11_likely_14) rfl rfl ?_
        refine g_bipush (v := 10) hC (dX11_likely_15) kb_10 ?_
        refine g_icmp_le (tgt := 22) hC (dX11_likely_17) (by decide) (fun c17 => ?_) (fun c17 => ?_)
        · have h := wpO_t c17 h
          refine g_aload_n (i := 0) (x := 0) hC (dX11_likely_22) rfl rfl ?_
          refine g_getR (r := 60) hC flX11_33 (dX11_likely_23) rfl rfl rfl ?_
          refine g_bipush (v := 6) hC (dX11_likely_26) kb_6 ?_
          have h := wpO_b h
          refine g_callVi ([.int 6]) hC wvX11_204 (dX11_likely_28) rfl rfl (by omega) (Nat.le_of_ble_eq_true rfl) (cX10_heldBy_ok (by omega) 60 6 M h) (fun r1 N q => ?_)
          obtain ⟨rfl, h⟩ := q
          refine g_istore_n (i := 3) (lv2 := [(3, .int r1), (0, .ref 0), (1, .int x1), (2, .int x2)]) hC (dX11_likely_31) rfl (by decide) rfl ?_
          refine g_iload_n (i := 3) (x := r1) hC (dX11_likely_32) rfl rfl ?_
          refine g_callSi ([.int r1]) hC wsX11_240 (dX11_likely_33) rfl (by omega) (Nat.le_of_ble_eq_true rfl) (cJ6_bitCount_0f7a4_ok (by omega) r1 M (K := fun r => r = fJ6_bitCount_0f7a4 r1) rfl) (fun r N q => ?_)
          obtain ⟨rfl, rfl⟩ := q
          refine g_nmi (fun x4_36 e_x4_36 => ?_)
          have h := wpO_n e_x4_36 h
          refine g_istore (i := 4) (lv2 := [(4, .int x4_36), (3, .int r1), (0, .ref 0), (1, .int x1), (2, .int x2)]) hC (dX11_likely_36) (by decide) rfl ?_
          refine g_lconst (v := 0) hC (dX11_likely_38) kl_0 ?_
          refine g_lstore (i := 5) (lv2 := [(5, .long 0), (4, .int x4_36), (3, .int r1), (0, .ref 0), (1, .int x1), (2, .int x2)]) hC (dX11_likely_39) (by decide) rfl ?_
          refine g_iconst (v := 0) hC (dX11_likely_41) kc_0 ?_
          refine g_istore (i := 7) (lv2 := [(7, .int 0), (5, .long 0), (4, .int x4_36), (3, .int r1), (0, .ref 0), (1, .int x1), (2, .int x2)]) hC (dX11_likely_42) (by decide) rfl ?_
          refine g_sub (lv' := [(0, .ref 0), (1, .int x1), (2, .int x2), (3, .int r1), (4, .int x4_36), (5, .long 0), (7, .int 0)]) [4, 5, 6, 3, 2, 1, 0] rfl ?_
          refine wpO_bJ h (fun KL44 hKL44 h => ?_)
          refine lX11_likely_44 (K1 := KL44) hC (by omega) x1 x2 r1 x4_36 M (fun x5_126 h => ?_) _ _ _ h
          have h := hKL44 _ h
          refine g_aload_n (i := 0) (x := 0) hC (dX11_likely_126) rfl rfl ?_
          refine g_getR (r := 3) hC flX11_19 (dX11_likely_127) rfl rfl rfl ?_
          refine g_callVv ([]) hC wvX11_230 (dX11_likely_130) rfl rfl (by omega) (Nat.le_of_ble_eq_true rfl) (cX3_begin_ok (by omega) M (K := fun r => r = fX3_begin M) rfl) (fun N q => ?_)
          subst q
          refine g_nmM (fun M130 e_M130 => ?_)
          have h := wpO_n e_M130 h
          refine g_aload_n (i := 0) (x := 0) hC (dX11_likely_133) rfl rfl ?_
          refine g_getR (r := 3) hC flX11_19 (dX11_likely_134) rfl rfl rfl ?_
          refine g_lload (i := 5) (x := x5_126) hC (dX11_likely_137) rfl ?_
          refine g_ldc2_w (v := 10) hC m_961 (dX11_likely_139) ?_
          refine g_iload (i := 4) (x := x4_36) hC (dX11_likely_142) rfl ?_
          have h := wpO_b h
          refine g_callSl ([.long 10, .int x4_36]) hC wsX11_381 (dX11_likely_144) rfl (by omega) (Nat.le_of_ble_eq_true rfl) (cX11_power_ok (by omega) 10 x4_36 M130 h) (fun r11 N q => ?_)
          obtain ⟨rfl, h⟩ := q
          have h := wpO_b h
          refine g_callVv ([.long x5_126, .long r11]) hC wvX11_372 (dX11_likely_147) rfl rfl (by omega) (Nat.le_of_ble_eq_true rfl) (cX3_tellFraction_ok (by omega) x5_126 r11 M130 h) (fun M147 h => ?_)
          refine g_iconst (v := 0) hC (dX11_likely_150) kc_0 ?_
          refine g_ireturn hC hr (dX11_likely_151) ?_
          exact wpO_s h
        · have h := wpO_f c17 h
          refine g_iconst (v := (-1)) hC (dX11_likely_20) kc_m1 ?_
          refine g_ireturn hC hr (dX11_likely_21) ?_
          exact wpO_s h
/-! LostByState.hatch()I -/
theorem dX11_hatch_0 : decode cX11_hatch 0 = .ok (.aload_n 0, 1) := by decide +kernel
theorem dX11_hatch_1 : decode cX11_hatch 1 = .ok (.getfield 10, 3) := by decide +kernel
theorem dX11_hatch_4 : decode cX11_hatch 4 = .ok (.aload_n 0, 1) := by decide +kernel
theorem dX11_hatch_5 : decode cX11_hatch 5 = .ok (.getfield 102, 3) := by decide +kernel
theorem dX11_hatch_8 : decode cX11_hatch 8 = .ok (.invokevirtual 354, 3) := by decide +kernel
theorem dX11_hatch_11 : decode cX11_hatch 11 = .ok (.istore_n 1, 1) := by decide +kernel
theorem dX11_hatch_12 : decode cX11_hatch 12 = .ok (.aload_n 0, 1) := by decide +kernel
theorem dX11_hatch_13 : decode cX11_hatch 13 = .ok (.getfield 10, 3) := by decide +kernel
theorem dX11_hatch_16 : decode cX11_hatch 16 = .ok (.invokevirtual 132, 3) := by decide +kernel
theorem dX11_hatch_19 : decode cX11_hatch 19 = .ok (.iload_n 1, 1) := by decide +kernel
theorem dX11_hatch_20 : decode cX11_hatch 20 = .ok (.ifCond .gt 13, 3) := by decide +kernel
theorem dX11_hatch_23 : decode cX11_hatch 23 = .ok (.iload_n 1, 1) := by decide +kernel
theorem dX11_hatch_24 : decode cX11_hatch 24 = .ok (.ifCond .ge 7, 3) := by decide +kernel
theorem dX11_hatch_27 : decode cX11_hatch 27 = .ok (.iload_n 1, 1) := by decide +kernel
theorem dX11_hatch_28 : decode cX11_hatch 28 = .ok (.goto 4, 3) := by decide +kernel
theorem dX11_hatch_31 : decode cX11_hatch 31 = .ok (.iconst (-1), 1) := by decide +kernel
theorem dX11_hatch_32 : decode cX11_hatch 32 = .ok (.ireturn, 1) := by decide +kernel
theorem dX11_hatch_33 : decode cX11_hatch 33 = .ok (.iconst 0, 1) := by decide +kernel
theorem dX11_hatch_34 : decode cX11_hatch 34 = .ok (.istore_n 2, 1) := by decide +kernel
theorem dX11_hatch_35 : decode cX11_hatch 35 = .ok (.iconst 0, 1) := by decide +kernel
theorem dX11_hatch_36 : decode cX11_hatch 36 = .ok (.istore_n 3, 1) := by decide +kernel
theorem dX11_hatch_37 : decode cX11_hatch 37 = .ok (.iload_n 3, 1) := by decide +kernel
theorem dX11_hatch_38 : decode cX11_hatch 38 = .ok (.iload_n 1, 1) := by decide +kernel
theorem dX11_hatch_39 : decode cX11_hatch 39 = .ok (.if_icmp .ge 18, 3) := by decide +kernel
theorem dX11_hatch_42 : decode cX11_hatch 42 = .ok (.iload_n 2, 1) := by decide +kernel
theorem dX11_hatch_43 : decode cX11_hatch 43 = .ok (.aload_n 0, 1) := by decide +kernel
theorem dX11_hatch_44 : decode cX11_hatch 44 = .ok (.getfield 102, 3) := by decide +kernel
theorem dX11_hatch_47 : decode cX11_hatch 47 = .ok (.iload_n 3, 1) := by decide +kernel
theorem dX11_hatch_48 : decode cX11_hatch 48 = .ok (.iaload, 1) := by decide +kernel
theorem dX11_hatch_49 : decode cX11_hatch 49 = .ok (.ixor, 1) := by decide +kernel
theorem dX11_hatch_50 : decode cX11_hatch 50 = .ok (.istore_n 2, 1) := by decide +kernel
theorem dX11_hatch_51 : decode cX11_hatch 51 = .ok (.iinc 3 1, 3) := by decide +kernel
theorem dX11_hatch_54 : decode cX11_hatch 54 = .ok (.goto (-17), 3) := by decide +kernel
theorem dX11_hatch_57 : decode cX11_hatch 57 = .ok (.aload_n 0, 1) := by decide +kernel
theorem dX11_hatch_58 : decode cX11_hatch 58 = .ok (.getfield 19, 3) := by decide +kernel
theorem dX11_hatch_61 : decode cX11_hatch 61 = .ok (.invokevirtual 230, 3) := by decide +kernel
theorem dX11_hatch_64 : decode cX11_hatch 64 = .ok (.iconst 0, 1) := by decide +kernel
theorem dX11_hatch_65 : decode cX11_hatch 65 = .ok (.istore_n 3, 1) := by decide +kernel
theorem dX11_hatch_66 : decode cX11_hatch 66 = .ok (.iload_n 3, 1) := by decide +kernel
theorem dX11_hatch_67 : decode cX11_hatch 67 = .ok (.iload_n 1, 1) := by decide +kernel
theorem dX11_hatch_68 : decode cX11_hatch 68 = .ok (.if_icmp .ge 58, 3) := by decide +kernel
theorem dX11_hatch_71 : decode cX11_hatch 71 = .ok (.aload_n 0, 1) := by decide +kernel
theorem dX11_hatch_72 : decode cX11_hatch 72 = .ok (.getfield 102, 3) := by decide +kernel
theorem dX11_hatch_75 : decode cX11_hatch 75 = .ok (.iload_n 3, 1) := by decide +kernel
theorem dX11_hatch_76 : decode cX11_hatch 76 = .ok (.iaload, 1) := by decide +kernel
theorem dX11_hatch_77 : decode cX11_hatch 77 = .ok (.iload_n 2, 1) := by decide +kernel
theorem dX11_hatch_78 : decode cX11_hatch 78 = .ok (.ixor, 1) := by decide +kernel
theorem dX11_hatch_79 : decode cX11_hatch 79 = .ok (.istore 4, 2) := by decide +kernel
theorem dX11_hatch_81 : decode cX11_hatch 81 = .ok (.iload 4, 2) := by decide +kernel
theorem dX11_hatch_83 : decode cX11_hatch 83 = .ok (.aload_n 0, 1) := by decide +kernel
theorem dX11_hatch_84 : decode cX11_hatch 84 = .ok (.getfield 102, 3) := by decide +kernel
theorem dX11_hatch_87 : decode cX11_hatch 87 = .ok (.iload_n 3, 1) := by decide +kernel
theorem dX11_hatch_88 : decode cX11_hatch 88 = .ok (.iaload, 1) := by decide +kernel
theorem dX11_hatch_89 : decode cX11_hatch 89 = .ok (.if_icmp .ge 31, 3) := by decide +kernel
theorem dX11_hatch_92 : decode cX11_hatch 92 = .ok (.aload_n 0, 1) := by decide +kernel
theorem dX11_hatch_93 : decode cX11_hatch 93 = .ok (.getfield 19, 3) := by decide +kernel
theorem dX11_hatch_96 : decode cX11_hatch 96 = .ok (.iload_n 3, 1) := by decide +kernel
theorem dX11_hatch_97 : decode cX11_hatch 97 = .ok (.i2l, 1) := by decide +kernel
theorem dX11_hatch_98 : decode cX11_hatch 98 = .ok (.invokevirtual 233, 3) := by decide +kernel
theorem dX11_hatch_101 : decode cX11_hatch 101 = .ok (.aload_n 0, 1) := by decide +kernel
theorem dX11_hatch_102 : decode cX11_hatch 102 = .ok (.getfield 19, 3) := by decide +kernel
theorem dX11_hatch_105 : decode cX11_hatch 105 = .ok (.aload_n 0, 1) := by decide +kernel
theorem dX11_hatch_106 : decode cX11_hatch 106 = .ok (.getfield 102, 3) := by decide +kernel
theorem dX11_hatch_109 : decode cX11_hatch 109 = .ok (.iload_n 3, 1) := by decide +kernel
theorem dX11_hatch_110 : decode cX11_hatch 110 = .ok (.iaload, 1) := by decide +kernel
theorem dX11_hatch_111 : decode cX11_hatch 111 = .ok (.iload 4, 2) := by decide +kernel
theorem dX11_hatch_113 : decode cX11_hatch 113 = .ok (.isub, 1) := by decide +kernel
theorem dX11_hatch_114 : decode cX11_hatch 114 = .ok (.i2l, 1) := by decide +kernel
theorem dX11_hatch_115 : decode cX11_hatch 115 = .ok (.invokevirtual 233, 3) := by decide +kernel
theorem dX11_hatch_118 : decode cX11_hatch 118 = .ok (.iconst 1, 1) := by decide +kernel
theorem dX11_hatch_119 : decode cX11_hatch 119 = .ok (.ireturn, 1) := by decide +kernel
theorem dX11_hatch_120 : decode cX11_hatch 120 = .ok (.iinc 3 1, 3) := by decide +kernel
theorem dX11_hatch_123 : decode cX11_hatch 123 = .ok (.goto (-57), 3) := by decide +kernel
theorem dX11_hatch_126 : decode cX11_hatch 126 = .ok (.iconst 0, 1) := by decide +kernel
theorem dX11_hatch_127 : decode cX11_hatch 127 = .ok (.ireturn, 1) := by decide +kernel
def fX11_hatch_L37 (x1 : Int32) (M : zM) : Nat → Int32 → Int32 → Option Int32
  | 0, _, _ => none
  | n + 1, x2, x3 => if x1 ≤ x3 then (
    some x2)
    else (
    if zin x3 6 then (
    zlet (x2 ^^^ (M.1 35 x3.toNatClampNeg)) fun (x2_50 : Int32) =>
    fX11_hatch_L37 x1 M n x2_50 (x3 + 1)) else none)
def fX11_hatch_L66 (x1 : Int32) (x2 : Int32) : Nat → Int32 → zM → Option ((Int32 × zM) ⊕ zM)
  | 0, _, _ => none
  | n + 1, x3, M => if x1 ≤ x3 then (
    some (.inr M))
    else (
    if zin x3 6 then (
    zlet ((M.1 35 x3.toNatClampNeg) ^^^ x2) fun (x4_79 : Int32) =>
    if (M.1 35 x3.toNatClampNeg) ≤ x4_79 then (
    fX11_hatch_L66 x1 x2 n (x3 + 1) M)
    else (
    (fX3_tell x3.toInt64 M).bind fun (M98 : zM) =>
    (fX3_tell (((M98.1 35 x3.toNatClampNeg) - x4_79).toInt64) M98).bind fun (M115 : zM) =>
    some (.inl (1, M115)))) else none)
def fX11_hatch  (M : zM) : Option (Int32 × zM) := (fX9_readDigits 35 M).bind fun (q : Int32 × zM) => zp q fun r1 M8 =>
  zlet (fX9_clear M8) fun (M16 : zM) =>
  if 0 < r1 then (
  (fX11_hatch_L37 r1 M16 4000 0 0).bind fun (x2_57 : Int32) =>
  zlet (fX3_begin M16) fun (M61 : zM) =>
  (fX11_hatch_L66 r1 x2_57 4000 0 M61).bind fun q => zs q (fun r => some r)
  (fun (M_126 : zM) =>
  some (0, M_126)))
  else (
  if 0 ≤ r1 then (
  some ((-1), M16))
  else (
  some (r1, M16)))
set_option maxHeartbeats 4000000 in
theorem lX11_hatch_37 {E : zE} {Γ : zT} {d : Nat} {K1 : Int32 → Prop} (hC : Cx E Γ RX11 cX11_hatch 5 d) (hd : 1 ≤ d) (x1 : Int32) (M : zM) (hx : ∀ (x2_57 : Int32), K1 x2_57 → G E Γ 5 57 [(0, .ref 0), (1, .int x1), (2, .int x2_57)] [] M) :
    ∀ (n : Nat) (x2 : Int32) (x3 : Int32), wpO (fX11_hatch_L37 x1 M n x2 x3) K1 → G E Γ 5 37 [(0, .ref 0), (1, .int x1), (2, .int x2), (3, .int x3)] [] M := by
  intro n
  induction n with
  | zero =>
    intro x2 x3 h
    exact (wpO_0 h).elim
  | succ n ih =>
    intro x2 x3 h
    rw [fX11_hatch_L37.eq_2] at h
    refine g_iload_n (i := 3) (x := x3) hC (dX11_hatch_37) rfl rfl ?_
    refine g_iload_n (i := 1) (x := x1) hC (dX11_hatch_38) rfl rfl ?_
    refine g_icmp_ge (tgt := 57) hC (dX11_hatch_39) (by decide) (fun c39 => ?_) (fun c39 => ?_)
    · have h := wpO_t c39 h
      refine g_sub (lv' := [(0, .ref 0), (1, .int x1), (2, .int x2)]) [0, 1, 2] rfl ?_
      exact hx _ (wpO_s h)
    · have h := wpO_f c39 h
      refine g_iload_n (i := 2) (x := x2) hC (dX11_hatch_42) rfl rfl ?_
      refine g_aload_n (i := 0) (x := 0) hC (dX11_hatch_43) rfl rfl ?_
      refine g_getR (r := 35) hC flX11_102 (dX11_hatch_44) rfl rfl rfl ?_
      refine g_iload_n (i := 3) (x := x3) hC (dX11_hatch_47) rfl rfl ?_
      obtain ⟨q3, h⟩ := wpO_g h
      refine g_iaload (n := 6) hC (dX11_hatch_48) rfl q3 ?_
      refine g_ixor hC (dX11_hatch_49) ?_
      refine g_nmi (fun x2_50 e_x2_50 => ?_)
      have h := wpO_n e_x2_50 h
      refine g_istore_n (i := 2) (lv2 := [(2, .int x2_50), (0, .ref 0), (1, .int x1), (3, .int x3)]) hC (dX11_hatch_50) rfl (by decide) rfl ?_
      refine g_iinc (x := x3) (v := (x3 + 1)) (lv2 := [(3, .int (x3 + 1)), (2, .int x2_50), (0, .ref 0), (1, .int x1)]) hC (dX11_hatch_51) rfl rfl (by decide) rfl ?_
      refine g_goto (tgt := 37) hC (dX11_hatch_54) (by decide) ?_
      refine g_sub (lv' := [(0, .ref 0), (1, .int x1), (2, .int x2_50), (3, .int (x3 + 1))]) [2, 3, 1, 0] rfl ?_
      exact ih _ _ h
set_option maxHeartbeats 4000000 in
theorem lX11_hatch_66 {E : zE} {Γ : zT} {d : Nat} {K1 : ((Int32 × zM) ⊕ zM) → Prop} (hC : Cx E Γ RX11 cX11_hatch 5 d) {post : Int32 → zM → Prop} (hr : zRi E Γ (some .int) post) (hd : 1 ≤ d) (x1 : Int32) (x2 : Int32) (hret : ∀ (r : Int32) (N : zM), K1 (.inl (r, N)) → post r N) (hx : ∀ (M_126 : zM), K1 (.inr M_126) → G E Γ 5 126 [] [] M_126) :
    ∀ (n : Nat) (x3 : Int32) (M : zM), wpO (fX11_hatch_L66 x1 x2 n x3 M) K1 → G E Γ 5 66 [(0, .ref 0), (1, .int x1), (2, .int x2), (3, .int x3)] [] M := by
  intro n
  induction n with
  | zero =>
    intro x3 M h
    exact (wpO_0 h).elim
  | succ n ih =>
    intro x3 M h
    rw [fX11_hatch_L66.eq_2] at h
    refine g_iload_n (i := 3) (x := x3) hC (dX11_hatch_66) rfl rfl ?_
    refine g_iload_n (i := 1) (x := x1) hC (dX11_hatch_67) rfl rfl ?_
    refine g_icmp_ge (tgt := 126) hC (dX11_hatch_68) (by decide) (fun c68 => ?_) (fun c68 => ?_)
    · have h := wpO_t c68 h
      refine g_sub (lv' := []) [] rfl ?_
      exact hx _ (wpO_s h)
    · have h := wpO_f c68 h
      refine g_aload_n (i := 0) (x := 0) hC (dX11_hatch_71) rfl rfl ?_
      refine g_getR (r := 35) hC flX11_102 (dX11_hatch_72) rfl rfl rfl ?_
      refine g_iload_n (i := 3) (x := x3) hC (dX11_hatch_75) rfl rfl ?_
      obtain ⟨q5, h⟩ := wpO_g h
      refine g_iaload (n := 6) hC (dX11_hatch_76) rfl q5 ?_
      refine g_iload_n (i := 2) (x := x2) hC (dX11_hatch_77) rfl rfl ?_
      refine g_ixor hC (dX11_hatch_78) ?_
      refine g_nmi (fun x4_79 e_x4_79 => ?_)
      have h := wpO_n e_x4_79 h
      refine g_istore (i := 4) (lv2 := [(4, .int x4_79), (0, .ref 0), (1, .int x1), (2, .int x2), (3, .int x3)]) hC (dX11_hatch_79) (by decide) rfl ?_
      refine g_iload (i := 4) (x := x4_79) hC (dX11_hatch_81) rfl ?_
      refine g_aload_n (i := 0) (x := 0) hC (dX11_hatch_83) rfl rfl ?_
      refine g_getR (r := 35) hC flX11_102 (dX11_hatch_84) rfl rfl rfl ?_
      refine g_iload_n (i := 3) (x := x3) hC (dX11_hatch_87) rfl rfl ?_
      refine g_iaload (n := 6) hC (dX11_hatch_88) rfl q5 ?_
      refine g_icmp_ge (tgt := 120) hC (dX11_hatch_89) (by decide) (fun c89 => ?_) (fun c89 => ?_)
      · have h := wpO_t c89 h
        refine g_iinc (x := x3) (v := (x3 + 1)) (lv2 := [(3, .int (x3 + 1)), (4, .int x4_79), (0, .ref 0), (1, .int x1), (2, .int x2)]) hC (dX11_hatch_120) rfl rfl (by decide) rfl ?_
        refine g_goto (tgt := 66) hC (dX11_hatch_123) (by decide) ?_
        refine g_sub (lv' := [(0, .ref 0), (1, .int x1), (2, .int x2), (3, .int (x3 + 1))]) [2, 3, 4, 0] rfl ?_
        exact ih _ _ h
      · have h := wpO_f c89 h
        refine g_aload_n (i := 0) (x := 0) hC (dX11_hatch_92) rfl rfl ?_
        refine g_getR (r := 3) hC flX11_19 (dX11_hatch_93) rfl rfl rfl ?_
        refine g_iload_n (i := 3) (x := x3) hC (dX11_hatch_96) rfl rfl ?_
        refine g_i2l hC (dX11_hatch_97) ?_
        have h := wpO_b h
        refine g_callVv ([.long x3.toInt64]) hC wvX11_233 (dX11_hatch_98) rfl rfl (by omega) (Nat.le_of_ble_eq_true rfl) (cX3_tell_ok (by omega) x3.toInt64 M h) (fun M98 h => ?_)
        refine g_aload_n (i := 0) (x := 0) hC (dX11_hatch_101) rfl rfl ?_
        refine g_getR (r := 3) hC flX11_19 (dX11_hatch_102) rfl rfl rfl ?_
        refine g_aload_n (i := 0) (x := 0) hC (dX11_hatch_105) rfl rfl ?_
        refine g_getR (r := 35) hC flX11_102 (dX11_hatch_106) rfl rfl rfl ?_
        refine g_iload_n (i := 3) (x := x3) hC (dX11_hatch_109) rfl rfl ?_
        refine g_iaload (n := 6) hC (dX11_hatch_110) rfl q5 ?_
        refine g_iload (i := 4) (x := x4_79) hC (dX11_hatch_111) rfl ?_
        refine g_isub hC (dX11_hatch_113) ?_
        refine g_i2l hC (dX11_hatch_114) ?_
        have h := wpO_b h
        refine g_callVv ([.long (((M98.1 35 x3.toNatClampNeg) - x4_79).toInt64)]) hC wvX11_233 (dX11_hatch_115) rfl rfl (by omega) (Nat.le_of_ble_eq_true rfl) (cX3_tell_ok (by omega) (((M98.1 35 x3.toNatClampNeg) - x4_79).toInt64) M98 h) (fun M115 h => ?_)
        refine g_iconst (v := 1) hC (dX11_hatch_118) kc_1 ?_
        refine g_ireturn hC hr (dX11_hatch_119) ?_
        exact hret _ _ (wpO_s h)
set_option maxHeartbeats 4000000 in
theorem cX11_hatch_ok {E : zE} {d : Nat} (hd : 1 ≤ d)  (M : zM) {K : (Int32 × zM) → Prop} (h : wpO (fX11_hatch  M) K) : CMi E d yX11_hatch cX11_hatch 5 (some .int) [.ref 0] M (fun r N => K (r, N)) := by
  refine CMi.of (by decide) (Nat.le_of_ble_eq_true rfl) (fun Γ hC hr => ?_)
  have hC : Cx E Γ RX11 cX11_hatch 5 d := hC
  show G E Γ 5 0 [(0, .ref 0)] [] M
  unfold fX11_hatch at h
  refine g_aload_n (i := 0) (x := 0) hC (dX11_hatch_0) rfl rfl ?_
  refine g_getR (r := 1) hC flX11_10 (dX11_hatch_1) rfl rfl rfl ?_
  refine g_aload_n (i := 0) (x := 0) hC (dX11_hatch_4) rfl rfl ?_
  refine g_getR (r := 35) hC flX11_102 (dX11_hatch_5) rfl rfl rfl ?_
  have h := wpO_b h
  refine g_callVi ([.ref 35]) hC wvX11_354 (dX11_hatch_8) rfl rfl (by omega) (Nat.le_of_ble_eq_true rfl) (cX9_readDigits_ok (by omega) 35 M h) (fun r1 M8 h => ?_)
  have h := wpO_p h
  refine g_istore_n (i := 1) (lv2 := [(1, .int r1), (0, .ref 0)]) hC (dX11_hatch_11) rfl (by decide) rfl ?_
  refine g_aload_n (i := 0) (x := 0) hC (dX11_hatch_12) rfl rfl ?_
  refine g_getR (r := 1) hC flX11_10 (dX11_hatch_13) rfl rfl rfl ?_
  refine g_callVv ([]) hC wvX11_132 (dX11_hatch_16) rfl rfl (by omega) (Nat.le_of_ble_eq_true rfl) (cX9_clear_ok (by omega) M8 (K := fun r => r = fX9_clear M8) rfl) (fun N q => ?_)
  subst q
  refine g_nmM (fun M16 e_M16 => ?_)
  have h := wpO_n e_M16 h
  refine g_iload_n (i := 1) (x := r1) hC (dX11_hatch_19) rfl rfl ?_
  refine g_if_gt (tgt := 33) hC (dX11_hatch_20) (by decide) (fun c20 => ?_) (fun c20 => ?_)
  · have h := wpO_t c20 h
    refine g_iconst (v := 0) hC (dX11_hatch_33) kc_0 ?_
    refine g_istore_n (i := 2) (lv2 := [(2, .int 0), (1, .int r1), (0, .ref 0)]) hC (dX11_hatch_34) rfl (by decide) rfl ?_
    refine g_iconst (v := 0) hC (dX11_hatch_35) kc_0 ?_
    refine g_istore_n (i := 3) (lv2 := [(3, .int 0), (2, .int 0), (1, .int r1), (0, .ref 0)]) hC (dX11_hatch_36) rfl (by decide) rfl ?_
    refine g_sub (lv' := [(0, .ref 0), (1, .int r1), (2, .int 0), (3, .int 0)]) [3, 2, 1, 0] rfl ?_
    refine wpO_bJ h (fun KL37 hKL37 h => ?_)
    refine lX11_hatch_37 (K1 := KL37) hC (by omega) r1 M16 (fun x2_57 h => ?_) _ _ _ h
    have h := hKL37 _ h
    refine g_aload_n (i := 0) (x := 0) hC (dX11_hatch_57) rfl rfl ?_
    refine g_getR (r := 3) hC flX11_19 (dX11_hatch_58) rfl rfl rfl ?_
    refine g_callVv ([]) hC wvX11_230 (dX11_hatch_61) rfl rfl (by omega) (Nat.le_of_ble_eq_true rfl) (cX3_begin_ok (by omega) M16 (K := fun r => r = fX3_begin M16) rfl) (fun N q => ?_)
    subst q
    refine g_nmM (fun M61 e_M61 => ?_)
    have h := wpO_n e_M61 h
    refine g_iconst (v := 0) hC (dX11_hatch_64) kc_0 ?_
    refine g_istore_n (i := 3) (lv2 := [(3, .int 0), (0, .ref 0), (1, .int r1), (2, .int x2_57)]) hC (dX11_hatch_65) rfl (by decide) rfl ?_
    refine g_sub (lv' := [(0, .ref 0), (1, .int r1), (2, .int x2_57), (3, .int 0)]) [1, 2, 3, 0] rfl ?_
    refine wpO_bJ h (fun KL66 hKL66 h => ?_)
    refine lX11_hatch_66 (K1 := KL66) hC hr (by omega) r1 x2_57 (fun r N h => ?_) (fun M_126 h => ?_) _ _ _ h
    · have h := wpO_i (hKL66 _ h)
      exact wpO_s h
    · have h := wpO_r (hKL66 _ h)
      refine g_iconst (v := 0) hC (dX11_hatch_126) kc_0 ?_
      refine g_ireturn hC hr (dX11_hatch_127) ?_
      exact wpO_s h
  · have h := wpO_f c20 h
    refine g_iload_n (i := 1) (x := r1) hC (dX11_hatch_23) rfl rfl ?_
    refine g_if_ge (tgt := 31) hC (dX11_hatch_24) (by decide) (fun c24 => ?_) (fun c24 => ?_)
    · have h := wpO_t c24 h
      refine g_iconst (v := (-1)) hC (dX11_hatch_31) kc_m1 ?_
      refine g_ireturn hC hr (dX11_hatch_32) ?_
      exact wpO_s h
    · have h := wpO_f c24 h
      refine g_iload_n (i := 1) (x := r1) hC (dX11_hatch_27) rfl rfl ?_
      refine g_goto (tgt := 32) hC (dX11_hatch_28) (by decide) ?_
      refine g_ireturn hC hr (dX11_hatch_32) ?_
      exact wpO_s h
