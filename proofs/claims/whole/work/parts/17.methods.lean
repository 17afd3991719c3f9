/-! LostByStateModel.remember([I)V -/
theorem dX12_remember_0 : decode cX12_remember 0 = .ok (.aload_n 0, 1) := by decide +kernel
theorem dX12_remember_1 : decode cX12_remember 1 = .ok (.getfield 144, 3) := by decide +kernel
theorem dX12_remember_4 : decode cX12_remember 4 = .ok (.bipush 12, 2) := by decide +kernel
theorem dX12_remember_6 : decode cX12_remember 6 = .ok (.if_icmp .ne 43, 3) := by decide +kernel
theorem dX12_remember_9 : decode cX12_remember 9 = .ok (.iconst 0, 1) := by decide +kernel
theorem dX12_remember_10 : decode cX12_remember 10 = .ok (.istore_n 2, 1) := by decide +kernel
theorem dX12_remember_11 : decode cX12_remember 11 = .ok (.iload_n 2, 1) := by decide +kernel
theorem dX12_remember_12 : decode cX12_remember 12 = .ok (.sipush 286, 3) := by decide +kernel
theorem dX12_remember_15 : decode cX12_remember 15 = .ok (.if_icmp .ge 24, 3) := by decide +kernel
theorem dX12_remember_18 : decode cX12_remember 18 = .ok (.aload_n 0, 1) := by decide +kernel
theorem dX12_remember_19 : decode cX12_remember 19 = .ok (.getfield 49, 3) := by decide +kernel
theorem dX12_remember_22 : decode cX12_remember 22 = .ok (.iload_n 2, 1) := by decide +kernel
theorem dX12_remember_23 : decode cX12_remember 23 = .ok (.aload_n 0, 1) := by decide +kernel
theorem dX12_remember_24 : decode cX12_remember 24 = .ok (.getfield 49, 3) := by decide +kernel
theorem dX12_remember_27 : decode cX12_remember 27 = .ok (.iload_n 2, 1) := by decide +kernel
theorem dX12_remember_28 : decode cX12_remember 28 = .ok (.bipush 26, 2) := by decide +kernel
theorem dX12_remember_30 : decode cX12_remember 30 = .ok (.iadd, 1) := by decide +kernel
theorem dX12_remember_31 : decode cX12_remember 31 = .ok (.iaload, 1) := by decide +kernel
theorem dX12_remember_32 : decode cX12_remember 32 = .ok (.iastore, 1) := by decide +kernel
theorem dX12_remember_33 : decode cX12_remember 33 = .ok (.iinc 2 1, 3) := by decide +kernel
theorem dX12_remember_36 : decode cX12_remember 36 = .ok (.goto (-25), 3) := by decide +kernel
theorem dX12_remember_39 : decode cX12_remember 39 = .ok (.aload_n 0, 1) := by decide +kernel
theorem dX12_remember_40 : decode cX12_remember 40 = .ok (.dup, 1) := by decide +kernel
theorem dX12_remember_41 : decode cX12_remember 41 = .ok (.getfield 144, 3) := by decide +kernel
theorem dX12_remember_44 : decode cX12_remember 44 = .ok (.iconst 1, 1) := by decide +kernel
theorem dX12_remember_45 : decode cX12_remember 45 = .ok (.isub, 1) := by decide +kernel
theorem dX12_remember_46 : decode cX12_remember 46 = .ok (.putfield 144, 3) := by decide +kernel
theorem dX12_remember_49 : decode cX12_remember 49 = .ok (.aload_n 1, 1) := by decide +kernel
theorem dX12_remember_50 : decode cX12_remember 50 = .ok (.aload_n 0, 1) := by decide +kernel
theorem dX12_remember_51 : decode cX12_remember 51 = .ok (.getfield 49, 3) := by decide +kernel
theorem dX12_remember_54 : decode cX12_remember 54 = .ok (.bipush 26, 2) := by decide +kernel
theorem dX12_remember_56 : decode cX12_remember 56 = .ok (.aload_n 0, 1) := by decide +kernel
theorem dX12_remember_57 : decode cX12_remember 57 = .ok (.getfield 144, 3) := by decide +kernel
theorem dX12_remember_60 : decode cX12_remember 60 = .ok (.imul, 1) := by decide +kernel
theorem dX12_remember_61 : decode cX12_remember 61 = .ok (.invokestatic 239, 3) := by decide +kernel
theorem dX12_remember_64 : decode cX12_remember 64 = .ok (.aload_n 0, 1) := by decide +kernel
theorem dX12_remember_65 : decode cX12_remember 65 = .ok (.dup, 1) := by decide +kernel
theorem dX12_remember_66 : decode cX12_remember 66 = .ok (.getfield 144, 3) := by decide +kernel
theorem dX12_remember_69 : decode cX12_remember 69 = .ok (.iconst 1, 1) := by decide +kernel
theorem dX12_remember_70 : decode cX12_remember 70 = .ok (.iadd, 1) := by decide +kernel
theorem dX12_remember_71 : decode cX12_remember 71 = .ok (.putfield 144, 3) := by decide +kernel
theorem dX12_remember_74 : decode cX12_remember 74 = .ok (.return_, 1) := by decide +kernel
def fX12_remember_L11 (x1 : Nat) : Nat → Int32 → zM → Option zM
  | 0, _, _ => none
  | n + 1, x2, M => if 286 ≤ x2 then (
    some M)
    else (
    if zin (x2 + 26) 312 then (
    if zin x2 312 then (
    zlet (zSI M 47 x2.toNatClampNeg (M.1 47 (x2 + 26).toNatClampNeg)) fun (M32 : zM) =>
    fX12_remember_L11 x1 n (x2 + 1) M32) else none) else none)
def fX12_remember (x1 : Nat) (M : zM) : Option zM := (if (M.1 36 25) = 12 then (
  (fX12_remember_L11 x1 4000 0 M).bind fun (M_39 : zM) =>
  zlet (zSI M_39 36 25 ((M_39.1 36 25) - 1)) fun (M46 : zM) =>
  some M46)
  else (
  some M) : Option zM).bind fun (M_49 : zM) =>
  (fX12_lay x1 47 (26 * (M_49.1 36 25)) M_49).bind fun (M61 : zM) =>
  zlet (zSI M61 36 25 ((M61.1 36 25) + 1)) fun (M71 : zM) =>
  some M71
set_option maxHeartbeats 4000000 in
theorem lX12_remember_11 {E : zE} {Γ : zT} {d : Nat} {K1 : zM → Prop} (hC : Cx E Γ RX12 cX12_remember 3 d) (hd : 1 ≤ d) (x1 : Nat) (hx : ∀ (M_39 : zM), K1 M_39 → G E Γ 3 39 [(0, .ref 36), (1, .ref x1)] [] M_39) :
    ∀ (n : Nat) (x2 : Int32) (M : zM), wpO (fX12_remember_L11 x1 n x2 M) K1 → G E Γ 3 11 [(0, .ref 36), (1, .ref x1), (2, .int x2)] [] M := by
  intro n
  induction n with
  | zero =>
    intro x2 M h
    exact (wpO_0 h).elim
  | succ n ih =>
    intro x2 M h
    rw [fX12_remember_L11.eq_2] at h
    refine g_iload_n (i := 2) (x := x2) hC (dX12_remember_11) rfl rfl ?_
    refine g_sipush (v := 286) hC (dX12_remember_12) ks_286 ?_
    refine g_icmp_ge (tgt := 39) hC (dX12_remember_15) (by decide) (fun c15 => ?_) (fun c15 => ?_)
    · have h := wpO_t c15 h
      refine g_sub (lv' := [(0, .ref 36), (1, .ref x1)]) [0, 1] rfl ?_
      exact hx _ (wpO_s h)
    · have h := wpO_f c15 h
      refine g_aload_n (i := 0) (x := 36) hC (dX12_remember_18) rfl rfl ?_
      refine g_getR (r := 47) hC flX12_49 (dX12_remember_19) rfl rfl rfl ?_
      refine g_iload_n (i := 2) (x := x2) hC (dX12_remember_22) rfl rfl ?_
      refine g_aload_n (i := 0) (x := 36) hC (dX12_remember_23) rfl rfl ?_
      refine g_getR (r := 47) hC flX12_49 (dX12_remember_24) rfl rfl rfl ?_
      refine g_iload_n (i := 2) (x := x2) hC (dX12_remember_27) rfl rfl ?_
      refine g_bipush (v := 26) hC (dX12_remember_28) kb_26 ?_
      refine g_iadd hC (dX12_remember_30) ?_
      obtain ⟨q2, h⟩ := wpO_g h
      refine g_iaload (n := 312) hC (dX12_remember_31) rfl q2 ?_
      obtain ⟨q3, h⟩ := wpO_g h
      refine g_iastore (n := 312) hC (dX12_remember_32) rfl q3 ?_
      refine g_nmM (fun M32 e_M32 => ?_)
      have h := wpO_n e_M32 h
      refine g_iinc (x := x2) (v := (x2 + 1)) (lv2 := [(2, .int (x2 + 1)), (0, .ref 36), (1, .ref x1)]) hC (dX12_remember_33) rfl rfl (by decide) rfl ?_
      refine g_goto (tgt := 11) hC (dX12_remember_36) (by decide) ?_
      refine g_sub (lv' := [(0, .ref 36), (1, .ref x1), (2, .int (x2 + 1))]) [1, 2, 0] rfl ?_
      exact ih _ _ h
set_option maxHeartbeats 4000000 in
theorem cX12_remember_ok {E : zE} {d : Nat} (hd : 1 ≤ d) (x1 : Nat) (M : zM) {K : zM → Prop} (h : wpO (fX12_remember x1 M) K) : CMv E d yX12_remember cX12_remember 3 (none) [.ref 36, .ref x1] M K := by
  refine CMv.of (by decide) (Nat.le_of_ble_eq_true rfl) (fun Γ hC hr => ?_)
  have hC : Cx E Γ RX12 cX12_remember 3 d := hC
  show G E Γ 3 0 [(0, .ref 36), (1, .ref x1)] [] M
  unfold fX12_remember at h
  refine g_aload_n (i := 0) (x := 36) hC (dX12_remember_0) rfl rfl ?_
  refine g_getI hC flX12_144 (dX12_remember_1) rfl rfl ?_
  refine g_bipush (v := 12) hC (dX12_remember_4) kb_12 ?_
  refine wpO_bJ h (fun KJ1 hKJ1 h => ?_)
  have hJ1 : ∀ (M_49 : zM), KJ1 M_49 → G E Γ 3 49 [(0, .ref 36), (1, .ref x1)] [] M_49 := by
    intro M_49 h
    have h := hKJ1 _ h
    refine g_aload_n (i := 1) (x := x1) hC (dX12_remember_49) rfl rfl ?_
    refine g_aload_n (i := 0) (x := 36) hC (dX12_remember_50) rfl rfl ?_
    refine g_getR (r := 47) hC flX12_49 (dX12_remember_51) rfl rfl rfl ?_
    refine g_bipush (v := 26) hC (dX12_remember_54) kb_26 ?_
    refine g_aload_n (i := 0) (x := 36) hC (dX12_remember_56) rfl rfl ?_
    refine g_getI hC flX12_144 (dX12_remember_57) rfl rfl ?_
    refine g_imul hC (dX12_remember_60) ?_
    have h := wpO_b h
    refine g_callSv ([.ref x1, .ref 47, .int (26 * (M_49.1 36 25))]) hC wsX12_239 (dX12_remember_61) rfl (by omega) (Nat.le_of_ble_eq_true rfl) (cX12_lay_ok (by omega) x1 47 (26 * (M_49.1 36 25)) M_49 h) (fun M61 h => ?_)
    refine g_aload_n (i := 0) (x := 36) hC (dX12_remember_64) rfl rfl ?_
    refine g_dup hC (dX12_remember_65) rfl ?_
    refine g_getI hC flX12_144 (dX12_remember_66) rfl rfl ?_
    refine g_iconst (v := 1) hC (dX12_remember_69) kc_1 ?_
    refine g_iadd hC (dX12_remember_70) ?_
    refine g_putI hC fpX12_144 (dX12_remember_71) rfl rfl rfl rfl ?_
    refine g_nmM (fun M71 e_M71 => ?_)
    have h := wpO_n e_M71 h
    refine g_vreturn hC hr (dX12_remember_74) ?_
    exact wpO_s h
  refine g_icmp_ne (tgt := 49) hC (dX12_remember_6) (by decide) (fun c6 => ?_) (fun c6 => ?_)
  · have h := wpO_f c6 h
    exact hJ1 _ (wpO_s h)
  · have h := wpO_t c6 h
    refine g_iconst (v := 0) hC (dX12_remember_9) kc_0 ?_
    refine g_istore_n (i := 2) (lv2 := [(2, .int 0), (0, .ref 36), (1, .ref x1)]) hC (dX12_remember_10) rfl (by decide) rfl ?_
    refine g_sub (lv' := [(0, .ref 36), (1, .ref x1), (2, .int 0)]) [1, 2, 0] rfl ?_
    refine wpO_bJ h (fun KL11 hKL11 h => ?_)
    refine lX12_remember_11 (K1 := KL11) hC (by omega) x1 (fun M_39 h => ?_) _ _ _ h
    have h := hKL11 _ h
    refine g_aload_n (i := 0) (x := 36) hC (dX12_remember_39) rfl rfl ?_
    refine g_dup hC (dX12_remember_40) rfl ?_
    refine g_getI hC flX12_144 (dX12_remember_41) rfl rfl ?_
    refine g_iconst (v := 1) hC (dX12_remember_44) kc_1 ?_
    refine g_isub hC (dX12_remember_45) ?_
    refine g_putI hC fpX12_144 (dX12_remember_46) rfl rfl rfl rfl ?_
    refine g_nmM (fun M46 e_M46 => ?_)
    have h := wpO_n e_M46 h
    exact hJ1 _ (wpO_s h)
/-! LostByStateModel.goes([IIII)V -/
theorem dX12_goes_0 : decode cX12_goes 0 = .ok (.aload_n 0, 1) := by decide +kernel
theorem dX12_goes_1 : decode cX12_goes 1 = .ok (.iload_n 1, 1) := by decide +kernel
theorem dX12_goes_2 : decode cX12_goes 2 = .ok (.iload_n 2, 1) := by decide +kernel
theorem dX12_goes_3 : decode cX12_goes 3 = .ok (.iastore, 1) := by decide +kernel
theorem dX12_goes_4 : decode cX12_goes 4 = .ok (.aload_n 0, 1) := by decide +kernel
theorem dX12_goes_5 : decode cX12_goes 5 = .ok (.bipush 8, 2) := by decide +kernel
theorem dX12_goes_7 : decode cX12_goes 7 = .ok (.iload_n 1, 1) := by decide +kernel
theorem dX12_goes_8 : decode cX12_goes 8 = .ok (.iadd, 1) := by decide +kernel
theorem dX12_goes_9 : decode cX12_goes 9 = .ok (.iload_n 3, 1) := by decide +kernel
theorem dX12_goes_10 : decode cX12_goes 10 = .ok (.iastore, 1) := by decide +kernel
theorem dX12_goes_11 : decode cX12_goes 11 = .ok (.aload_n 0, 1) := by decide +kernel
theorem dX12_goes_12 : decode cX12_goes 12 = .ok (.bipush 16, 2) := by decide +kernel
theorem dX12_goes_14 : decode cX12_goes 14 = .ok (.iload_n 1, 1) := by decide +kernel
theorem dX12_goes_15 : decode cX12_goes 15 = .ok (.iadd, 1) := by decide +kernel
theorem dX12_goes_16 : decode cX12_goes 16 = .ok (.iconst 0, 1) := by decide +kernel
theorem dX12_goes_17 : decode cX12_goes 17 = .ok (.iastore, 1) := by decide +kernel
theorem dX12_goes_18 : decode cX12_goes 18 = .ok (.return_, 1) := by decide +kernel
def fX12_goes (x0 : Nat) (x1 : Int32) (x2 : Int32) (x3 : Int32) (M : zM) : Option zM := if zSH x0 = .inr (0, zLen x0) then (
  if zin x1 (zLen x0) then (
  zlet (zSI M x0 x1.toNatClampNeg x2) fun (M3 : zM) =>
  if zin (8 + x1) (zLen x0) then (
  zlet (zSI M3 x0 (8 + x1).toNatClampNeg x3) fun (M10 : zM) =>
  if zin (16 + x1) (zLen x0) then (
  zlet (zSI M10 x0 (16 + x1).toNatClampNeg 0) fun (M17 : zM) =>
  some M17) else none) else none) else none) else none
set_option maxHeartbeats 4000000 in
theorem cX12_goes_ok {E : zE} {d : Nat} (hd : 0 ≤ d) (x0 : Nat) (x1 : Int32) (x2 : Int32) (x3 : Int32) (M : zM) {K : zM → Prop} (h : wpO (fX12_goes x0 x1 x2 x3 M) K) : CMv E d yX12_goes cX12_goes 4 (none) [.ref x0, .int x1, .int x2, .int x3] M K := by
  refine CMv.of (by decide) (Nat.le_of_ble_eq_true rfl) (fun Γ hC hr => ?_)
  have hC : Cx E Γ RX12 cX12_goes 4 d := hC
  show G E Γ 4 0 [(0, .ref x0), (1, .int x1), (2, .int x2), (3, .int x3)] [] M
  unfold fX12_goes at h
  refine g_aload_n (i := 0) (x := x0) hC (dX12_goes_0) rfl rfl ?_
  refine g_iload_n (i := 1) (x := x1) hC (dX12_goes_1) rfl rfl ?_
  refine g_iload_n (i := 2) (x := x2) hC (dX12_goes_2) rfl rfl ?_
  obtain ⟨q1, h⟩ := wpO_g h
  obtain ⟨q2, h⟩ := wpO_g h
  refine g_iastore (n := (zLen x0)) hC (dX12_goes_3) q1 q2 ?_
  refine g_nmM (fun M3 e_M3 => ?_)
  have h := wpO_n e_M3 h
  refine g_aload_n (i := 0) (x := x0) hC (dX12_goes_4) rfl rfl ?_
  refine g_bipush (v := 8) hC (dX12_goes_5) kb_8 ?_
  refine g_iload_n (i := 1) (x := x1) hC (dX12_goes_7) rfl rfl ?_
  refine g_iadd hC (dX12_goes_8) ?_
  refine g_iload_n (i := 3) (x := x3) hC (dX12_goes_9) rfl rfl ?_
  obtain ⟨q3, h⟩ := wpO_g h
  refine g_iastore (n := (zLen x0)) hC (dX12_goes_10) q1 q3 ?_
  refine g_nmM (fun M10 e_M10 => ?_)
  have h := wpO_n e_M10 h
  refine g_aload_n (i := 0) (x := x0) hC (dX12_goes_11) rfl rfl ?_
  refine g_bipush (v := 16) hC (dX12_goes_12) kb_16 ?_
  refine g_iload_n (i := 1) (x := x1) hC (dX12_goes_14) rfl rfl ?_
  refine g_iadd hC (dX12_goes_15) ?_
  refine g_iconst (v := 0) hC (dX12_goes_16) kc_0 ?_
  obtain ⟨q4, h⟩ := wpO_g h
  refine g_iastore (n := (zLen x0)) hC (dX12_goes_17) q1 q4 ?_
  refine g_nmM (fun M17 e_M17 => ?_)
  have h := wpO_n e_M17 h
  refine g_vreturn hC hr (dX12_goes_18) ?_
  exact wpO_s h
/-! LostByStateModel.refusesLoss([III)I -/
theorem dX12_refusesLoss_0 : decode cX12_refusesLoss 0 = .ok (.aload_n 0, 1) := by decide +kernel
theorem dX12_refusesLoss_1 : decode cX12_refusesLoss 1 = .ok (.iload_n 2, 1) := by decide +kernel
theorem dX12_refusesLoss_2 : decode cX12_refusesLoss 2 = .ok (.invokevirtual 220, 3) := by decide +kernel
theorem dX12_refusesLoss_5 : decode cX12_refusesLoss 5 = .ok (.ifCond .eq 12, 3) := by decide +kernel
theorem dX12_refusesLoss_8 : decode cX12_refusesLoss 8 = .ok (.iload_n 3, 1) := by decide +kernel
theorem dX12_refusesLoss_9 : decode cX12_refusesLoss 9 = .ok (.iconst 0, 1) := by decide +kernel
theorem dX12_refusesLoss_10 : decode cX12_refusesLoss 10 = .ok (.iconst 5, 1) := by decide +kernel
theorem dX12_refusesLoss_11 : decode cX12_refusesLoss 11 = .ok (.invokestatic 95, 3) := by decide +kernel
theorem dX12_refusesLoss_14 : decode cX12_refusesLoss 14 = .ok (.ifCond .ne 5, 3) := by decide +kernel
theorem dX12_refusesLoss_17 : decode cX12_refusesLoss 17 = .ok (.iconst (-1), 1) := by decide +kernel
theorem dX12_refusesLoss_18 : decode cX12_refusesLoss 18 = .ok (.ireturn, 1) := by decide +kernel
theorem dX12_refusesLoss_19 : decode cX12_refusesLoss 19 = .ok (.aload_n 1, 1) := by decide +kernel
theorem dX12_refusesLoss_20 : decode cX12_refusesLoss 20 = .ok (.iload_n 2, 1) := by decide +kernel
theorem dX12_refusesLoss_21 : decode cX12_refusesLoss 21 = .ok (.iaload, 1) := by decide +kernel
theorem dX12_refusesLoss_22 : decode cX12_refusesLoss 22 = .ok (.ifCond .ne 7, 3) := by decide +kernel
theorem dX12_refusesLoss_25 : decode cX12_refusesLoss 25 = .ok (.iconst 0, 1) := by decide +kernel
theorem dX12_refusesLoss_26 : decode cX12_refusesLoss 26 = .ok (.goto 5, 3) := by decide +kernel
theorem dX12_refusesLoss_29 : decode cX12_refusesLoss 29 = .ok (.bipush (-2), 2) := by decide +kernel
theorem dX12_refusesLoss_31 : decode cX12_refusesLoss 31 = .ok (.ireturn, 1) := by decide +kernel
def fX12_refusesLoss (x1 : Nat) (x2 : Int32) (x3 : Int32) (M : zM) : Option Int32 := if (fX12_isThing x2 M) = 0 then (
  some (-1))
  else (
  if (fX12_in x3 0 5) = 0 then (
  some (-1))
  else (
  if zSH x1 = .inr (0, zLen x1) then (
  if zin x2 (zLen x1) then (
  if (M.1 x1 x2.toNatClampNeg) = 0 then (
  some 0)
  else (
  some (-2))) else none) else none))
set_option maxHeartbeats 4000000 in
theorem cX12_refusesLoss_ok {E : zE} {d : Nat} (hd : 2 ≤ d) (x1 : Nat) (x2 : Int32) (x3 : Int32) (M : zM) {K : Int32 → Prop} (h : wpO (fX12_refusesLoss x1 x2 x3 M) K) : CMi E d yX12_refusesLoss cX12_refusesLoss 4 (some .int) [.ref 36, .ref x1, .int x2, .int x3] M (fun r N => M = N ∧ K r) := by
  refine CMi.of (by decide) (Nat.le_of_ble_eq_true rfl) (fun Γ hC hr => ?_)
  have hC : Cx E Γ RX12 cX12_refusesLoss 4 d := hC
  show G E Γ 4 0 [(0, .ref 36), (1, .ref x1), (2, .int x2), (3, .int x3)] [] M
  unfold fX12_refusesLoss at h
  refine g_aload_n (i := 0) (x := 36) hC (dX12_refusesLoss_0) rfl rfl ?_
  refine g_iload_n (i := 2) (x := x2) hC (dX12_refusesLoss_1) rfl rfl ?_
  refine g_callVi ([.int x2]) hC wvX12_220 (dX12_refusesLoss_2) rfl rfl (by omega) (Nat.le_of_ble_eq_true rfl) (cX12_isThing_ok (by omega) x2 M (K := fun r => r = fX12_isThing x2 M) rfl) (fun r N q => ?_)
  obtain ⟨rfl, rfl⟩ := q
  refine g_if_eq (tgt := 17) hC (dX12_refusesLoss_5) (by decide) (fun c5 => ?_) (fun c5 => ?_)
  · have h := wpO_t c5 h
    refine g_iconst (v := (-1)) hC (dX12_refusesLoss_17) kc_m1 ?_
    refine g_ireturn hC hr (dX12_refusesLoss_18) ?_
    exact ⟨rfl, wpO_s h⟩
  · have h := wpO_f c5 h
    refine g_iload_n (i := 3) (x := x3) hC (dX12_refusesLoss_8) rfl rfl ?_
    refine g_iconst (v := 0) hC (dX12_refusesLoss_9) kc_0 ?_
    refine g_iconst (v := 5) hC (dX12_refusesLoss_10) kc_5 ?_
    refine g_callSi ([.int x3, .int 0, .int 5]) hC wsX12_95 (dX12_refusesLoss_11) rfl (by omega) (Nat.le_of_ble_eq_true rfl) (cX12_in_ok (by omega) x3 0 5 M (K := fun r => r = fX12_in x3 0 5) rfl) (fun r N q => ?_)
    obtain ⟨rfl, rfl⟩ := q
    refine g_if_ne (tgt := 19) hC (dX12_refusesLoss_14) (by decide) (fun c14 => ?_) (fun c14 => ?_)
    · have h := wpO_f c14 h
      refine g_aload_n (i := 1) (x := x1) hC (dX12_refusesLoss_19) rfl rfl ?_
      refine g_iload_n (i := 2) (x := x2) hC (dX12_refusesLoss_20) rfl rfl ?_
      obtain ⟨q3, h⟩ := wpO_g h
      obtain ⟨q4, h⟩ := wpO_g h
      refine g_iaload (n := (zLen x1)) hC (dX12_refusesLoss_21) q3 q4 ?_
      refine g_if_ne (tgt := 29) hC (dX12_refusesLoss_22) (by decide) (fun c22 => ?_) (fun c22 => ?_)
      · have h := wpO_f c22 h
        refine g_bipush (v := (-2)) hC (dX12_refusesLoss_29) kb_m2 ?_
        refine g_ireturn hC hr (dX12_refusesLoss_31) ?_
        exact ⟨rfl, wpO_s h⟩
      · have h := wpO_t c22 h
        refine g_iconst (v := 0) hC (dX12_refusesLoss_25) kc_0 ?_
        refine g_goto (tgt := 31) hC (dX12_refusesLoss_26) (by decide) ?_
        refine g_ireturn hC hr (dX12_refusesLoss_31) ?_
        exact ⟨rfl, wpO_s h⟩
    · have h := wpO_t c14 h
      refine g_iconst (v := (-1)) hC (dX12_refusesLoss_17) kc_m1 ?_
      refine g_ireturn hC hr (dX12_refusesLoss_18) ?_
      exact ⟨rfl, wpO_s h⟩
/-! LostByStateModel.loses(II)I -/
theorem dX12_loses_0 : decode cX12_loses 0 = .ok (.aload_n 0, 1) := by decide +kernel
theorem dX12_loses_1 : decode cX12_loses 1 = .ok (.iconst 0, 1) := by decide +kernel
theorem dX12_loses_2 : decode cX12_loses 2 = .ok (.putfield 86, 3) := by decide +kernel
theorem dX12_loses_5 : decode cX12_loses 5 = .ok (.aload_n 0, 1) := by decide +kernel
theorem dX12_loses_6 : decode cX12_loses 6 = .ok (.aload_n 0, 1) := by decide +kernel
theorem dX12_loses_7 : decode cX12_loses 7 = .ok (.getfield 9, 3) := by decide +kernel
theorem dX12_loses_10 : decode cX12_loses 10 = .ok (.iload_n 1, 1) := by decide +kernel
theorem dX12_loses_11 : decode cX12_loses 11 = .ok (.iload_n 2, 1) := by decide +kernel
theorem dX12_loses_12 : decode cX12_loses 12 = .ok (.invokevirtual 243, 3) := by decide +kernel
theorem dX12_loses_15 : decode cX12_loses 15 = .ok (.istore_n 3, 1) := by decide +kernel
theorem dX12_loses_16 : decode cX12_loses 16 = .ok (.iload_n 3, 1) := by decide +kernel
theorem dX12_loses_17 : decode cX12_loses 17 = .ok (.ifCond .ge 5, 3) := by decide +kernel
theorem dX12_loses_20 : decode cX12_loses 20 = .ok (.iload_n 3, 1) := by decide +kernel
theorem dX12_loses_21 : decode cX12_loses 21 = .ok (.ireturn, 1) := by decide +kernel
theorem dX12_loses_22 : decode cX12_loses 22 = .ok (.aload_n 0, 1) := by decide +kernel
theorem dX12_loses_23 : decode cX12_loses 23 = .ok (.aload_n 0, 1) := by decide +kernel
theorem dX12_loses_24 : decode cX12_loses 24 = .ok (.getfield 9, 3) := by decide +kernel
theorem dX12_loses_27 : decode cX12_loses 27 = .ok (.invokevirtual 247, 3) := by decide +kernel
theorem dX12_loses_30 : decode cX12_loses 30 = .ok (.aload_n 0, 1) := by decide +kernel
theorem dX12_loses_31 : decode cX12_loses 31 = .ok (.getfield 9, 3) := by decide +kernel
theorem dX12_loses_34 : decode cX12_loses 34 = .ok (.iload_n 1, 1) := by decide +kernel
theorem dX12_loses_35 : decode cX12_loses 35 = .ok (.iconst 1, 1) := by decide +kernel
theorem dX12_loses_36 : decode cX12_loses 36 = .ok (.iload_n 2, 1) := by decide +kernel
theorem dX12_loses_37 : decode cX12_loses 37 = .ok (.invokestatic 251, 3) := by decide +kernel
theorem dX12_loses_40 : decode cX12_loses 40 = .ok (.aload_n 0, 1) := by decide +kernel
theorem dX12_loses_41 : decode cX12_loses 41 = .ok (.aload_n 0, 1) := by decide +kernel
theorem dX12_loses_42 : decode cX12_loses 42 = .ok (.getfield 9, 3) := by decide +kernel
theorem dX12_loses_45 : decode cX12_loses 45 = .ok (.iconst 1, 1) := by decide +kernel
theorem dX12_loses_46 : decode cX12_loses 46 = .ok (.invokevirtual 209, 3) := by decide +kernel
theorem dX12_loses_49 : decode cX12_loses 49 = .ok (.invokestatic 196, 3) := by decide +kernel
theorem dX12_loses_52 : decode cX12_loses 52 = .ok (.ireturn, 1) := by decide +kernel
def fX12_loses (x1 : Int32) (x2 : Int32) (M : zM) : Option (Int32 × zM) := zlet (zSI M 36 12 0) fun (M2 : zM) =>
  (fX12_refusesLoss 37 x1 x2 M2).bind fun (r1 : Int32) =>
  if 0 ≤ r1 then (
  (fX12_remember 37 M2).bind fun (M27 : zM) =>
  (fX12_goes 37 x1 1 x2 M27).bind fun (M37 : zM) =>
  (fX12_those 37 1 M37).bind fun (r4 : Int32) =>
  some (fJ6_bitCount_0f7a4 r4, M37))
  else (
  some (r1, M2))
set_option maxHeartbeats 4000000 in
theorem cX12_loses_ok {E : zE} {d : Nat} (hd : 3 ≤ d) (x1 : Int32) (x2 : Int32) (M : zM) {K : (Int32 × zM) → Prop} (h : wpO (fX12_loses x1 x2 M) K) : CMi E d yX12_loses cX12_loses 4 (some .int) [.ref 36, .int x1, .int x2] M (fun r N => K (r, N)) := by
  refine CMi.of (by decide) (Nat.le_of_ble_eq_true rfl) (fun Γ hC hr => ?_)
  have hC : Cx E Γ RX12 cX12_loses 4 d := hC
  show G E Γ 4 0 [(0, .ref 36), (1, .int x1), (2, .int x2)] [] M
  unfold fX12_loses at h
  refine g_aload_n (i := 0) (x := 36) hC (dX12_loses_0) rfl rfl ?_
  refine g_iconst (v := 0) hC (dX12_loses_1) kc_0 ?_
  refine g_putI hC fpX12_86 (dX12_loses_2) rfl rfl rfl rfl ?_
  refine g_nmM (fun M2 e_M2 => ?_)
  have h := wpO_n e_M2 h
  refine g_aload_n (i := 0) (x := 36) hC (dX12_loses_5) rfl rfl ?_
  refine g_aload_n (i := 0) (x := 36) hC (dX12_loses_6) rfl rfl ?_
  refine g_getR (r := 37) hC flX12_9 (dX12_loses_7) rfl rfl rfl ?_
  refine g_iload_n (i := 1) (x := x1) hC (dX12_loses_10) rfl rfl ?_
  refine g_iload_n (i := 2) (x := x2) hC (dX12_loses_11) rfl rfl ?_
  have h := wpO_b h
  refine g_callVi ([.ref 37, .int x1, .int x2]) hC wvX12_243 (dX12_loses_12) rfl rfl (by omega) (Nat.le_of_ble_eq_true rfl) (cX12_refusesLoss_ok (by omega) 37 x1 x2 M2 h) (fun r1 N q => ?_)
  obtain ⟨rfl, h⟩ := q
  refine g_istore_n (i := 3) (lv2 := [(3, .int r1), (0, .ref 36), (1, .int x1), (2, .int x2)]) hC (dX12_loses_15) rfl (by decide) rfl ?_
  refine g_iload_n (i := 3) (x := r1) hC (dX12_loses_16) rfl rfl ?_
  refine g_if_ge (tgt := 22) hC (dX12_loses_17) (by decide) (fun c17 => ?_) (fun c17 => ?_)
  · have h := wpO_t c17 h
    refine g_aload_n (i := 0) (x := 36) hC (dX12_loses_22) rfl rfl ?_
    refine g_aload_n (i := 0) (x := 36) hC (dX12_loses_23) rfl rfl ?_
    refine g_getR (r := 37) hC flX12_9 (dX12_loses_24) rfl rfl rfl ?_
    have h := wpO_b h
    refine g_callVv ([.ref 37]) hC wvX12_247 (dX12_loses_27) rfl rfl (by omega) (Nat.le_of_ble_eq_true rfl) (cX12_remember_ok (by omega) 37 M2 h) (fun M27 h => ?_)
    refine g_aload_n (i := 0) (x := 36) hC (dX12_loses_30) rfl rfl ?_
    refine g_getR (r := 37) hC flX12_9 (dX12_loses_31) rfl rfl rfl ?_
    refine g_iload_n (i := 1) (x := x1) hC (dX12_loses_34) rfl rfl ?_
    refine g_iconst (v := 1) hC (dX12_loses_35) kc_1 ?_
    refine g_iload_n (i := 2) (x := x2) hC (dX12_loses_36) rfl rfl ?_
    have h := wpO_b h
    refine g_callSv ([.ref 37, .int x1, .int 1, .int x2]) hC wsX12_251 (dX12_loses_37) rfl (by omega) (Nat.le_of_ble_eq_true rfl) (cX12_goes_ok (by omega) 37 x1 1 x2 M27 h) (fun M37 h => ?_)
    refine g_aload_n (i := 0) (x := 36) hC (dX12_loses_40) rfl rfl ?_
    refine g_aload_n (i := 0) (x := 36) hC (dX12_loses_41) rfl rfl ?_
    refine g_getR (r := 37) hC flX12_9 (dX12_loses_42) rfl rfl rfl ?_
    refine g_iconst (v := 1) hC (dX12_loses_45) kc_1 ?_
    have h := wpO_b h
    refine g_callVi ([.ref 37, .int 1]) hC wvX12_209 (dX12_loses_46) rfl rfl (by omega) (Nat.le_of_ble_eq_true rfl) (cX12_those_ok (by omega) 37 1 M37 h) (fun r4 N q => ?_)
    obtain ⟨rfl, h⟩ := q
    refine g_callSi ([.int r4]) hC wsX12_196 (dX12_loses_49) rfl (by omega) (Nat.le_of_ble_eq_true rfl) (cJ6_bitCount_0f7a4_ok (by omega) r4 M37 (K := fun r => r = fJ6_bitCount_0f7a4 r4) rfl) (fun r N q => ?_)
    obtain ⟨rfl, rfl⟩ := q
    refine g_ireturn hC hr (dX12_loses_52) ?_
    exact wpO_s h
  · have h := wpO_f c17 h
    refine g_iload_n (i := 3) (x := r1) hC (dX12_loses_20) rfl rfl ?_
    refine g_ireturn hC hr (dX12_loses_21) ?_
    exact wpO_s h
/-! LostByStateModel.refusesFind([III)I -/
theorem dX12_refusesFind_0 : decode cX12_refusesFind 0 = .ok (.aload_n 0, 1) := by decide +kernel
theorem dX12_refusesFind_1 : decode cX12_refusesFind 1 = .ok (.iload_n 3, 1) := by decide +kernel
theorem dX12_refusesFind_2 : decode cX12_refusesFind 2 = .ok (.invokevirtual 220, 3) := by decide +kernel
theorem dX12_refusesFind_5 : decode cX12_refusesFind 5 = .ok (.ifCond .eq 12, 3) := by decide +kernel
theorem dX12_refusesFind_8 : decode cX12_refusesFind 8 = .ok (.iload_n 2, 1) := by decide +kernel
theorem dX12_refusesFind_9 : decode cX12_refusesFind 9 = .ok (.iconst 0, 1) := by decide +kernel
theorem dX12_refusesFind_10 : decode cX12_refusesFind 10 = .ok (.iconst 5, 1) := by decide +kernel
theorem dX12_refusesFind_11 : decode cX12_refusesFind 11 = .ok (.invokestatic 95, 3) := by decide +kernel
theorem dX12_refusesFind_14 : decode cX12_refusesFind 14 = .ok (.ifCond .ne 5, 3) := by decide +kernel
theorem dX12_refusesFind_17 : decode cX12_refusesFind 17 = .ok (.iconst (-1), 1) := by decide +kernel
theorem dX12_refusesFind_18 : decode cX12_refusesFind 18 = .ok (.ireturn, 1) := by decide +kernel
theorem dX12_refusesFind_19 : decode cX12_refusesFind 19 = .ok (.aload_n 1, 1) := by decide +kernel
theorem dX12_refusesFind_20 : decode cX12_refusesFind 20 = .ok (.iload_n 3, 1) := by decide +kernel
theorem dX12_refusesFind_21 : decode cX12_refusesFind 21 = .ok (.iaload, 1) := by decide +kernel
theorem dX12_refusesFind_22 : decode cX12_refusesFind 22 = .ok (.iconst 1, 1) := by decide +kernel
theorem dX12_refusesFind_23 : decode cX12_refusesFind 23 = .ok (.if_icmp .ne 7, 3) := by decide +kernel
theorem dX12_refusesFind_26 : decode cX12_refusesFind 26 = .ok (.iconst 0, 1) := by decide +kernel
theorem dX12_refusesFind_27 : decode cX12_refusesFind 27 = .ok (.goto 5, 3) := by decide +kernel
theorem dX12_refusesFind_30 : decode cX12_refusesFind 30 = .ok (.bipush (-2), 2) := by decide +kernel
theorem dX12_refusesFind_32 : decode cX12_refusesFind 32 = .ok (.ireturn, 1) := by decide +kernel
def fX12_refusesFind (x1 : Nat) (x2 : Int32) (x3 : Int32) (M : zM) : Option Int32 := if (fX12_isThing x3 M) = 0 then (
  some (-1))
  else (
  if (fX12_in x2 0 5) = 0 then (
  some (-1))
  else (
  if zSH x1 = .inr (0, zLen x1) then (
  if zin x3 (zLen x1) then (
  if (M.1 x1 x3.toNatClampNeg) = 1 then (
  some 0)
  else (
  some (-2))) else none) else none))
set_option maxHeartbeats 4000000 in
theorem cX12_refusesFind_ok {E : zE} {d : Nat} (hd : 2 ≤ d) (x1 : Nat) (x2 : Int32) (x3 : Int32) (M : zM) {K : Int32 → Prop} (h : wpO (fX12_refusesFind x1 x2 x3 M) K) : CMi E d yX12_refusesFind cX12_refusesFind 4 (some .int) [.ref 36, .ref x1, .int x2, .int x3] M (fun r N => M = N ∧ K r) := by
  refine CMi.of (by decide) (Nat.le_of_ble_eq_true rfl) (fun Γ hC hr => ?_)
  have hC : Cx E Γ RX12 cX12_refusesFind 4 d := hC
  show G E Γ 4 0 [(0, .ref 36), (1, .ref x1), (2, .int x2), (3, .int x3)] [] M
  unfold fX12_refusesFind at h
  refine g_aload_n (i := 0) (x := 36) hC (dX12_refusesFind_0) rfl rfl ?_
  refine g_iload_n (i := 3) (x := x3) hC (dX12_refusesFind_1) rfl rfl ?_
  refine g_callVi ([.int x3]) hC wvX12_220 (dX12_refusesFind_2) rfl rfl (by omega) (Nat.le_of_ble_eq_true rfl) (cX12_isThing_ok (by omega) x3 M (K := fun r => r = fX12_isThing x3 M) rfl) (fun r N q => ?_)
  obtain ⟨rfl, rfl⟩ := q
  refine g_if_eq (tgt := 17) hC (dX12_refusesFind_5) (by decide) (fun c5 => ?_) (fun c5 => ?_)
  · have h := wpO_t c5 h
    refine g_iconst (v := (-1)) hC (dX12_refusesFind_17) kc_m1 ?_
    refine g_ireturn hC hr (dX12_refusesFind_18) ?_
    exact ⟨rfl, wpO_s h⟩
  · have h := wpO_f c5 h
    refine g_iload_n (i := 2) (x := x2) hC (dX12_refusesFind_8) rfl rfl ?_
    refine g_iconst (v := 0) hC (dX12_refusesFind_9) kc_0 ?_
    refine g_iconst (v := 5) hC (dX12_refusesFind_10) kc_5 ?_
    refine g_callSi ([.int x2, .int 0, .int 5]) hC wsX12_95 (dX12_refusesFind_11) rfl (by omega) (Nat.le_of_ble_eq_true rfl) (cX12_in_ok (by omega) x2 0 5 M (K := fun r => r = fX12_in x2 0 5) rfl) (fun r N q => ?_)
    obtain ⟨rfl, rfl⟩ := q
    refine g_if_ne (tgt := 19) hC (dX12_refusesFind_14) (by decide) (fun c14 => ?_) (fun c14 => ?_)
    · have h := wpO_f c14 h
      refine g_aload_n (i := 1) (x := x1) hC (dX12_refusesFind_19) rfl rfl ?_
      refine g_iload_n (i := 3) (x := x3) hC (dX12_refusesFind_20) rfl rfl ?_
      obtain ⟨q3, h⟩ := wpO_g h
      obtain ⟨q4, h⟩ := wpO_g h
      refine g_iaload (n := (zLen x1)) hC (dX12_refusesFind_21) q3 q4 ?_
      refine g_iconst (v := 1) hC (dX12_refusesFind_22) kc_1 ?_
      refine g_icmp_ne (tgt := 30) hC (dX12_refusesFind_23) (by decide) (fun c23 => ?_) (fun c23 => ?_)
      · have h := wpO_f c23 h
        refine g_bipush (v := (-2)) hC (dX12_refusesFind_30) kb_m2 ?_
        refine g_ireturn hC hr (dX12_refusesFind_32) ?_
        exact ⟨rfl, wpO_s h⟩
      · have h := wpO_t c23 h
        refine g_iconst (v := 0) hC (dX12_refusesFind_26) kc_0 ?_
        refine g_goto (tgt := 32) hC (dX12_refusesFind_27) (by decide) ?_
        refine g_ireturn hC hr (dX12_refusesFind_32) ?_
        exact ⟨rfl, wpO_s h⟩
    · have h := wpO_t c14 h
      refine g_iconst (v := (-1)) hC (dX12_refusesFind_17) kc_m1 ?_
      refine g_ireturn hC hr (dX12_refusesFind_18) ?_
      exact ⟨rfl, wpO_s h⟩
/-! LostByStateModel.finds(II)I -/
theorem dX12_finds_0 : decode cX12_finds 0 = .ok (.aload_n 0, 1) := by decide +kernel
theorem dX12_finds_1 : decode cX12_finds 1 = .ok (.iconst 0, 1) := by decide +kernel
theorem dX12_finds_2 : decode cX12_finds 2 = .ok (.putfield 86, 3) := by decide +kernel
theorem dX12_finds_5 : decode cX12_finds 5 = .ok (.aload_n 0, 1) := by decide +kernel
theorem dX12_finds_6 : decode cX12_finds 6 = .ok (.aload_n 0, 1) := by decide +kernel
theorem dX12_finds_7 : decode cX12_finds 7 = .ok (.getfield 9, 3) := by decide +kernel
theorem dX12_finds_10 : decode cX12_finds 10 = .ok (.iload_n 1, 1) := by decide +kernel
theorem dX12_finds_11 : decode cX12_finds 11 = .ok (.iload_n 2, 1) := by decide +kernel
theorem dX12_finds_12 : decode cX12_finds 12 = .ok (.invokevirtual 255, 3) := by decide +kernel
theorem dX12_finds_15 : decode cX12_finds 15 = .ok (.istore_n 3, 1) := by decide +kernel
theorem dX12_finds_16 : decode cX12_finds 16 = .ok (.iload_n 3, 1) := by decide +kernel
theorem dX12_finds_17 : decode cX12_finds 17 = .ok (.ifCond .ge 5, 3) := by decide +kernel
theorem dX12_finds_20 : decode cX12_finds 20 = .ok (.iload_n 3, 1) := by decide +kernel
theorem dX12_finds_21 : decode cX12_finds 21 = .ok (.ireturn, 1) := by decide +kernel
theorem dX12_finds_22 : decode cX12_finds 22 = .ok (.aload_n 0, 1) := by decide +kernel
theorem dX12_finds_23 : decode cX12_finds 23 = .ok (.aload_n 0, 1) := by decide +kernel
theorem dX12_finds_24 : decode cX12_finds 24 = .ok (.getfield 9, 3) := by decide +kernel
theorem dX12_finds_27 : decode cX12_finds 27 = .ok (.invokevirtual 247, 3) := by decide +kernel
theorem dX12_finds_30 : decode cX12_finds 30 = .ok (.aload_n 0, 1) := by decide +kernel
theorem dX12_finds_31 : decode cX12_finds 31 = .ok (.getfield 9, 3) := by decide +kernel
theorem dX12_finds_34 : decode cX12_finds 34 = .ok (.iload_n 2, 1) := by decide +kernel
theorem dX12_finds_35 : decode cX12_finds 35 = .ok (.iconst 2, 1) := by decide +kernel
theorem dX12_finds_36 : decode cX12_finds 36 = .ok (.iload_n 1, 1) := by decide +kernel
theorem dX12_finds_37 : decode cX12_finds 37 = .ok (.invokestatic 251, 3) := by decide +kernel
theorem dX12_finds_40 : decode cX12_finds 40 = .ok (.aload_n 0, 1) := by decide +kernel
theorem dX12_finds_41 : decode cX12_finds 41 = .ok (.aload_n 0, 1) := by decide +kernel
theorem dX12_finds_42 : decode cX12_finds 42 = .ok (.getfield 9, 3) := by decide +kernel
theorem dX12_finds_45 : decode cX12_finds 45 = .ok (.iconst 2, 1) := by decide +kernel
theorem dX12_finds_46 : decode cX12_finds 46 = .ok (.invokevirtual 209, 3) := by decide +kernel
theorem dX12_finds_49 : decode cX12_finds 49 = .ok (.invokestatic 196, 3) := by decide +kernel
theorem dX12_finds_52 : decode cX12_finds 52 = .ok (.ireturn, 1) := by decide +kernel
def fX12_finds (x1 : Int32) (x2 : Int32) (M : zM) : Option (Int32 × zM) := zlet (zSI M 36 12 0) fun (M2 : zM) =>
  (fX12_refusesFind 37 x1 x2 M2).bind fun (r1 : Int32) =>
  if 0 ≤ r1 then (
  (fX12_remember 37 M2).bind fun (M27 : zM) =>
  (fX12_goes 37 x2 2 x1 M27).bind fun (M37 : zM) =>
  (fX12_those 37 2 M37).bind fun (r4 : Int32) =>
  some (fJ6_bitCount_0f7a4 r4, M37))
  else (
  some (r1, M2))
set_option maxHeartbeats 4000000 in
theorem cX12_finds_ok {E : zE} {d : Nat} (hd : 3 ≤ d) (x1 : Int32) (x2 : Int32) (M : zM) {K : (Int32 × zM) → Prop} (h : wpO (fX12_finds x1 x2 M) K) : CMi E d yX12_finds cX12_finds 4 (some .int) [.ref 36, .int x1, .int x2] M (fun r N => K (r, N)) := by
  refine CMi.of (by decide) (Nat.le_of_ble_eq_true rfl) (fun Γ hC hr => ?_)
  have hC : Cx E Γ RX12 cX12_finds 4 d := hC
  show G E Γ 4 0 [(0, .ref 36), (1, .int x1), (2, .int x2)] [] M
  unfold fX12_finds at h
  refine g_aload_n (i := 0) (x := 36) hC (dX12_finds_0) rfl rfl ?_
  refine g_iconst (v := 0) hC (dX12_finds_1) kc_0 ?_
  refine g_putI hC fpX12_86 (dX12_finds_2) rfl rfl rfl rfl ?_
  refine g_nmM (fun M2 e_M2 => ?_)
  have h := wpO_n e_M2 h
  refine g_aload_n (i := 0) (x := 36) hC (dX12_finds_5) rfl rfl ?_
  refine g_aload_n (i := 0) (x := 36) hC (dX12_finds_6) rfl rfl ?_
  refine g_getR (r := 37) hC flX12_9 (dX12_finds_7) rfl rfl rfl ?_
  refine g_iload_n (i := 1) (x := x1) hC (dX12_finds_10) rfl rfl ?_
  refine g_iload_n (i := 2) (x := x2) hC (dX12_finds_11) rfl rfl ?_
  have h := wpO_b h
  refine g_callVi ([.ref 37, .int x1, .int x2]) hC wvX12_255 (dX12_finds_12) rfl rfl (by omega) (Nat.le_of_ble_eq_true rfl) (cX12_refusesFind_ok (by omega) 37 x1 x2 M2 h) (fun r1 N q => ?_)
  obtain ⟨rfl, h⟩ := q
  refine g_istore_n (i := 3) (lv2 := [(3, .int r1), (0, .ref 36), (1, .int x1), (2, .int x2)]) hC (dX12_finds_15) rfl (by decide) rfl ?_
  refine g_iload_n (i := 3) (x := r1) hC (dX12_finds_16) rfl rfl ?_
  refine g_if_ge (tgt := 22) hC (dX12_finds_17) (by decide) (fun c17 => ?_) (fun c17 => ?_)
  · have h := wpO_t c17 h
    refine g_aload_n (i := 0) (x := 36) hC (dX12_finds_22) rfl rfl ?_
    refine g_aload_n (i := 0) (x := 36) hC (dX12_finds_23) rfl rfl ?_
    refine g_getR (r := 37) hC flX12_9 (dX12_finds_24) rfl rfl rfl ?_
    have h := wpO_b h
    refine g_callVv ([.ref 37]) hC wvX12_247 (dX12_finds_27) rfl rfl (by omega) (Nat.le_of_ble_eq_true rfl) (cX12_remember_ok (by omega) 37 M2 h) (fun M27 h => ?_)
    refine g_aload_n (i := 0) (x := 36) hC (dX12_finds_30) rfl rfl ?_
    refine g_getR (r := 37) hC flX12_9 (dX12_finds_31) rfl rfl rfl ?_
    refine g_iload_n (i := 2) (x := x2) hC (dX12_finds_34) rfl rfl ?_
    refine g_iconst (v := 2) hC (dX12_finds_35) kc_2 ?_
    refine g_iload_n (i := 1) (x := x1) hC (dX12_finds_36) rfl rfl ?_
    have h := wpO_b h
    refine g_callSv ([.ref 37, .int x2, .int 2, .int x1]) hC wsX12_251 (dX12_finds_37) rfl (by omega) (Nat.le_of_ble_eq_true rfl) (cX12_goes_ok (by omega) 37 x2 2 x1 M27 h) (fun M37 h => ?_)
    refine g_aload_n (i := 0) (x := 36) hC (dX12_finds_40) rfl rfl ?_
    refine g_aload_n (i := 0) (x := 36) hC (dX12_finds_41) rfl rfl ?_
    refine g_getR (r := 37) hC flX12_9 (dX12_finds_42) rfl rfl rfl ?_
    refine g_iconst (v := 2) hC (dX12_finds_45) kc_2 ?_
    have h := wpO_b h
    refine g_callVi ([.ref 37, .int 2]) hC wvX12_209 (dX12_finds_46) rfl rfl (by omega) (Nat.le_of_ble_eq_true rfl) (cX12_those_ok (by omega) 37 2 M37 h) (fun r4 N q => ?_)
    obtain ⟨rfl, h⟩ := q
    refine g_callSi ([.int r4]) hC wsX12_196 (dX12_finds_49) rfl (by omega) (Nat.le_of_ble_eq_true rfl) (cJ6_bitCount_0f7a4_ok (by omega) r4 M37 (K := fun r => r = fJ6_bitCount_0f7a4 r4) rfl) (fun r N q => ?_)
    obtain ⟨rfl, rfl⟩ := q
    refine g_ireturn hC hr (dX12_finds_52) ?_
    exact wpO_s h
  · have h := wpO_f c17 h
    refine g_iload_n (i := 3) (x := r1) hC (dX12_finds_20) rfl rfl ?_
    refine g_ireturn hC hr (dX12_finds_21) ?_
    exact wpO_s h
/-! LostByStateModel.gotBy([II)I -/
theorem dX12_gotBy_0 : decode cX12_gotBy 0 = .ok (.bipush (-2), 2) := by decide +kernel
theorem dX12_gotBy_2 : decode cX12_gotBy 2 = .ok (.istore_n 3, 1) := by decide +kernel
theorem dX12_gotBy_3 : decode cX12_gotBy 3 = .ok (.iconst 0, 1) := by decide +kernel
theorem dX12_gotBy_4 : decode cX12_gotBy 4 = .ok (.istore 4, 2) := by decide +kernel
theorem dX12_gotBy_6 : decode cX12_gotBy 6 = .ok (.iconst 0, 1) := by decide +kernel
theorem dX12_gotBy_7 : decode cX12_gotBy 7 = .ok (.istore 5, 2) := by decide +kernel
theorem dX12_gotBy_9 : decode cX12_gotBy 9 = .ok (.iload 5, 2) := by decide +kernel
theorem dX12_gotBy_11 : decode cX12_gotBy 11 = .ok (.aload_n 0, 1) := by decide +kernel
theorem dX12_gotBy_12 : decode cX12_gotBy 12 = .ok (.getfield 92, 3) := by decide +kernel
theorem dX12_gotBy_15 : decode cX12_gotBy 15 = .ok (.if_icmp .ge 53, 3) := by decide +kernel
theorem dX12_gotBy_18 : decode cX12_gotBy 18 = .ok (.aload_n 1, 1) := by decide +kernel
theorem dX12_gotBy_19 : decode cX12_gotBy 19 = .ok (.iload 5, 2) := by decide +kernel
theorem dX12_gotBy_21 : decode cX12_gotBy 21 = .ok (.iaload, 1) := by decide +kernel
theorem dX12_gotBy_22 : decode cX12_gotBy 22 = .ok (.iconst 2, 1) := by decide +kernel
theorem dX12_gotBy_23 : decode cX12_gotBy 23 = .ok (.if_icmp .eq 6, 3) := by decide +kernel
theorem dX12_gotBy_26 : decode cX12_gotBy 26 = .ok (.goto 36, 3) := by decide +kernel
theorem dX12_gotBy_29 : decode cX12_gotBy 29 = .ok (.aload_n 0, 1) := by decide +kernel
theorem dX12_gotBy_30 : decode cX12_gotBy 30 = .ok (.aload_n 1, 1) := by decide +kernel
theorem dX12_gotBy_31 : decode cX12_gotBy 31 = .ok (.iload_n 2, 1) := by decide +kernel
theorem dX12_gotBy_32 : decode cX12_gotBy 32 = .ok (.iload 5, 2) := by decide +kernel
theorem dX12_gotBy_34 : decode cX12_gotBy 34 = .ok (.invokevirtual 258, 3) := by decide +kernel
theorem dX12_gotBy_37 : decode cX12_gotBy 37 = .ok (.istore 6, 2) := by decide +kernel
theorem dX12_gotBy_39 : decode cX12_gotBy 39 = .ok (.iload_n 3, 1) := by decide +kernel
theorem dX12_gotBy_40 : decode cX12_gotBy 40 = .ok (.bipush (-2), 2) := by decide +kernel
theorem dX12_gotBy_42 : decode cX12_gotBy 42 = .ok (.if_icmp .eq 13, 3) := by decide +kernel
theorem dX12_gotBy_45 : decode cX12_gotBy 45 = .ok (.iload 6, 2) := by decide +kernel
theorem dX12_gotBy_47 : decode cX12_gotBy 47 = .ok (.iload 4, 2) := by decide +kernel
theorem dX12_gotBy_49 : decode cX12_gotBy 49 = .ok (.if_icmp .gt 6, 3) := by decide +kernel
theorem dX12_gotBy_52 : decode cX12_gotBy 52 = .ok (.goto 10, 3) := by decide +kernel
theorem dX12_gotBy_55 : decode cX12_gotBy 55 = .ok (.iload 5, 2) := by decide +kernel
theorem dX12_gotBy_57 : decode cX12_gotBy 57 = .ok (.istore_n 3, 1) := by decide +kernel
theorem dX12_gotBy_58 : decode cX12_gotBy 58 = .ok (.iload 6, 2) := by decide +kernel
theorem dX12_gotBy_60 : decode cX12_gotBy 60 = .ok (.istore 4, 2) := by decide +kernel
theorem dX12_gotBy_62 : decode cX12_gotBy 62 = .ok (.iinc 5 1, 3) := by decide +kernel
theorem dX12_gotBy_65 : decode cX12_gotBy 65 = .ok (.goto (-56), 3) := by decide +kernel
theorem dX12_gotBy_68 : decode cX12_gotBy 68 = .ok (.iload_n 3, 1) := by decide +kernel
theorem dX12_gotBy_69 : decode cX12_gotBy 69 = .ok (.bipush (-2), 2) := by decide +kernel
theorem dX12_gotBy_71 : decode cX12_gotBy 71 = .ok (.if_icmp .eq 16, 3) := by decide +kernel
theorem dX12_gotBy_74 : decode cX12_gotBy 74 = .ok (.iload 4, 2) := by decide +kernel
theorem dX12_gotBy_76 : decode cX12_gotBy 76 = .ok (.aload_n 0, 1) := by decide +kernel
theorem dX12_gotBy_77 : decode cX12_gotBy 77 = .ok (.getfield 17, 3) := by decide +kernel
theorem dX12_gotBy_80 : decode cX12_gotBy 80 = .ok (.if_icmp .lt 7, 3) := by decide +kernel
theorem dX12_gotBy_83 : decode cX12_gotBy 83 = .ok (.iload_n 3, 1) := by decide +kernel
theorem dX12_gotBy_84 : decode cX12_gotBy 84 = .ok (.goto 5, 3) := by decide +kernel
theorem dX12_gotBy_87 : decode cX12_gotBy 87 = .ok (.bipush (-2), 2) := by decide +kernel
theorem dX12_gotBy_89 : decode cX12_gotBy 89 = .ok (.ireturn, 1) := by decide +kernel
def fX12_gotBy_L9 (x1 : Nat) (x2 : Int32) : Nat → Int32 → Int32 → Int32 → zM → Option (Int32 × Int32 × zM)
  | 0, _, _, _, _ => none
  | n + 1, x3, x4, x5, M => if (M.1 36 1) ≤ x5 then (
    some (x3, x4, M))
    else (
    if zSH x1 = .inr (0, zLen x1) then (
    if zin x5 (zLen x1) then (
    (if (M.1 x1 x5.toNatClampNeg) = 2 then (
    (fX12_matchOf x1 x2 x5 M).bind fun (q : Int32 × zM) => zp q fun r4 M34 =>
    zj (fun (_ : Unit) =>
    some (x5, r4, M34))
    fun J5 =>
    if x3 = (-2) then (
    J5 ())
    else (
    if x4 < r4 then (
    J5 ())
    else (
    some (x3, x4, M34))))
    else (
    some (x3, x4, M)) : Option (Int32 × Int32 × zM)).bind fun (q : Int32 × Int32 × zM) => zp q fun x3_62 q => zp q fun x4_62 M_62 =>
    fX12_gotBy_L9 x1 x2 n x3_62 x4_62 (x5 + 1) M_62) else none) else none)
def fX12_gotBy (x1 : Nat) (x2 : Int32) (M : zM) : Option (Int32 × zM) := (fX12_gotBy_L9 x1 x2 4000 (-2) 0 0 M).bind fun (q : Int32 × Int32 × zM) => zp q fun x3_68 q => zp q fun x4_68 M_68 =>
  if x3_68 = (-2) then (
  some ((-2), M_68))
  else (
  if x4_68 < (M_68.1 36 4) then (
  some ((-2), M_68))
  else (
  some (x3_68, M_68)))
set_option maxHeartbeats 4000000 in
theorem lX12_gotBy_9 {E : zE} {Γ : zT} {d : Nat} {K1 : (Int32 × Int32 × zM) → Prop} (hC : Cx E Γ RX12 cX12_gotBy 7 d) (hd : 106 ≤ d) (x1 : Nat) (x2 : Int32) (hx : ∀ (x3_68 : Int32) (x4_68 : Int32) (M_68 : zM), K1 (x3_68, x4_68, M_68) → G E Γ 7 68 [(0, .ref 36), (3, .int x3_68), (4, .int x4_68)] [] M_68) :
    ∀ (n : Nat) (x3 : Int32) (x4 : Int32) (x5 : Int32) (M : zM), wpO (fX12_gotBy_L9 x1 x2 n x3 x4 x5 M) K1 → G E Γ 7 9 [(0, .ref 36), (1, .ref x1), (2, .int x2), (3, .int x3), (4, .int x4), (5, .int x5)] [] M := by
  intro n
  induction n with
  | zero =>
    intro x3 x4 x5 M h
    exact (wpO_0 h).elim
  | succ n ih =>
    intro x3 x4 x5 M h
    rw [fX12_gotBy_L9.eq_2] at h
    refine g_iload (i := 5) (x := x5) hC (dX12_gotBy_9) rfl ?_
    refine g_aload_n (i := 0) (x := 36) hC (dX12_gotBy_11) rfl rfl ?_
    refine g_getI hC flX12_92 (dX12_gotBy_12) rfl rfl ?_
    refine g_icmp_ge (tgt := 68) hC (dX12_gotBy_15) (by decide) (fun c15 => ?_) (fun c15 => ?_)
    · have h := wpO_t c15 h
      refine g_sub (lv' := [(0, .ref 36), (3, .int x3), (4, .int x4)]) [0, 3, 4] rfl ?_
      exact hx _ _ _ (wpO_s h)
    · have h := wpO_f c15 h
      refine g_aload_n (i := 1) (x := x1) hC (dX12_gotBy_18) rfl rfl ?_
      refine g_iload (i := 5) (x := x5) hC (dX12_gotBy_19) rfl ?_
      obtain ⟨q1, h⟩ := wpO_g h
      obtain ⟨q2, h⟩ := wpO_g h
      refine g_iaload (n := (zLen x1)) hC (dX12_gotBy_21) q1 q2 ?_
      refine g_iconst (v := 2) hC (dX12_gotBy_22) kc_2 ?_
      refine wpO_bJ h (fun KJ3 hKJ3 h => ?_)
      have hJ3 : ∀ (x3_62 : Int32) (x4_62 : Int32) (M_62 : zM), KJ3 (x3_62, x4_62, M_62) → G E Γ 7 62 [(0, .ref 36), (1, .ref x1), (2, .int x2), (3, .int x3_62), (4, .int x4_62), (5, .int x5)] [] M_62 := by
        intro x3_62 x4_62 M_62 h
        have h := hKJ3 _ h
        have h := wpO_p h
        have h := wpO_p h
        refine g_iinc (x := x5) (v := (x5 + 1)) (lv2 := [(5, .int (x5 + 1)), (0, .ref 36), (1, .ref x1), (2, .int x2), (3, .int x3_62), (4, .int x4_62)]) hC (dX12_gotBy_62) rfl rfl (by decide) rfl ?_
        refine g_goto (tgt := 9) hC (dX12_gotBy_65) (by decide) ?_
        refine g_sub (lv' := [(0, .ref 36), (1, .ref x1), (2, .int x2), (3, .int x3_62), (4, .int x4_62), (5, .int (x5 + 1))]) [1, 2, 3, 4, 5, 0] rfl ?_
        exact ih _ _ _ _ h
      refine g_icmp_eq (tgt := 29) hC (dX12_gotBy_23) (by decide) (fun c23 => ?_) (fun c23 => ?_)
      · have h := wpO_t c23 h
        refine g_aload_n (i := 0) (x := 36) hC (dX12_gotBy_29) rfl rfl ?_
        refine g_aload_n (i := 1) (x := x1) hC (dX12_gotBy_30) rfl rfl ?_
        refine g_iload_n (i := 2) (x := x2) hC (dX12_gotBy_31) rfl rfl ?_
        refine g_iload (i := 5) (x := x5) hC (dX12_gotBy_32) rfl ?_
        have h := wpO_b h
        refine g_callVi ([.ref x1, .int x2, .int x5]) hC wvX12_258 (dX12_gotBy_34) rfl rfl (by omega) (Nat.le_of_ble_eq_true rfl) (cX12_matchOf_ok (by omega) x1 x2 x5 M h) (fun r4 M34 h => ?_)
        have h := wpO_p h
        refine g_istore (i := 6) (lv2 := [(6, .int r4), (0, .ref 36), (1, .ref x1), (2, .int x2), (3, .int x3), (4, .int x4), (5, .int x5)]) hC (dX12_gotBy_37) (by decide) rfl ?_
        refine g_iload_n (i := 3) (x := x3) hC (dX12_gotBy_39) rfl rfl ?_
        refine g_bipush (v := (-2)) hC (dX12_gotBy_40) kb_m2 ?_
        refine wpO_j h (fun J5 hkJ5 h => ?_)
        have hJ5 : ∀ (_ : Unit), wpO (J5 ()) KJ3 → G E Γ 7 55 [(0, .ref 36), (1, .ref x1), (2, .int x2), (5, .int x5), (6, .int r4)] [] M34 := by
          intro _ h
          have h := hkJ5 _ h
          refine g_iload (i := 5) (x := x5) hC (dX12_gotBy_55) rfl ?_
          refine g_istore_n (i := 3) (lv2 := [(3, .int x5), (0, .ref 36), (1, .ref x1), (2, .int x2), (5, .int x5), (6, .int r4)]) hC (dX12_gotBy_57) rfl (by decide) rfl ?_
          refine g_iload (i := 6) (x := r4) hC (dX12_gotBy_58) rfl ?_
          refine g_istore (i := 4) (lv2 := [(4, .int r4), (3, .int x5), (0, .ref 36), (1, .ref x1), (2, .int x2), (5, .int x5), (6, .int r4)]) hC (dX12_gotBy_60) (by decide) rfl ?_
          refine g_sub (lv' := [(0, .ref 36), (1, .ref x1), (2, .int x2), (3, .int x5), (4, .int r4), (5, .int x5)]) [2, 3, 4, 1, 0, 5] rfl ?_
          exact hJ3 _ _ _ (wpO_s h)
        refine g_icmp_eq (tgt := 55) hC (dX12_gotBy_42) (by decide) (fun c42 => ?_) (fun c42 => ?_)
        · have h := wpO_t c42 h
          refine g_sub (lv' := [(0, .ref 36), (1, .ref x1), (2, .int x2), (5, .int x5), (6, .int r4)]) [1, 2, 3, 6, 0] rfl ?_
          exact hJ5 () h
        · have h := wpO_f c42 h
          refine g_iload (i := 6) (x := r4) hC (dX12_gotBy_45) rfl ?_
          refine g_iload (i := 4) (x := x4) hC (dX12_gotBy_47) rfl ?_
          refine g_icmp_gt (tgt := 55) hC (dX12_gotBy_49) (by decide) (fun c49 => ?_) (fun c49 => ?_)
          · have h := wpO_t c49 h
            refine g_sub (lv' := [(0, .ref 36), (1, .ref x1), (2, .int x2), (5, .int x5), (6, .int r4)]) [1, 2, 3, 6, 0] rfl ?_
            exact hJ5 () h
          · have h := wpO_f c49 h
            refine g_goto (tgt := 62) hC (dX12_gotBy_52) (by decide) ?_
            refine g_sub (lv' := [(0, .ref 36), (1, .ref x1), (2, .int x2), (3, .int x3), (4, .int x4), (5, .int x5)]) [1, 2, 3, 4, 5, 6] rfl ?_
            exact hJ3 _ _ _ (wpO_s h)
      · have h := wpO_f c23 h
        refine g_goto (tgt := 62) hC (dX12_gotBy_26) (by decide) ?_
        exact hJ3 _ _ _ (wpO_s h)
set_option maxHeartbeats 4000000 in
theorem cX12_gotBy_ok {E : zE} {d : Nat} (hd : 106 ≤ d) (x1 : Nat) (x2 : Int32) (M : zM) {K : (Int32 × zM) → Prop} (h : wpO (fX12_gotBy x1 x2 M) K) : CMi E d yX12_gotBy cX12_gotBy 7 (some .int) [.ref 36, .ref x1, .int x2] M (fun r N => K (r, N)) := by
  refine CMi.of (by decide) (Nat.le_of_ble_eq_true rfl) (fun Γ hC hr => ?_)
  have hC : Cx E Γ RX12 cX12_gotBy 7 d := hC
  show G E Γ 7 0 [(0, .ref 36), (1, .ref x1), (2, .int x2)] [] M
  unfold fX12_gotBy at h
  refine g_bipush (v := (-2)) hC (dX12_gotBy_0) kb_m2 ?_
  refine g_istore_n (i := 3) (lv2 := [(3, .int (-2)), (0, .ref 36), (1, .ref x1), (2, .int x2)]) hC (dX12_gotBy_2) rfl (by decide) rfl ?_
  refine g_iconst (v := 0) hC (dX12_gotBy_3) kc_0 ?_
  refine g_istore (i := 4) (lv2 := [(4, .int 0), (3, .int (-2)), (0, .ref 36), (1, .ref x1), (2, .int x2)]) hC (dX12_gotBy_4) (by decide) rfl ?_
  refine g_iconst (v := 0) hC (dX12_gotBy_6) kc_0 ?_
  refine g_istore (i := 5) (lv2 := [(5, .int 0), (4, .int 0), (3, .int (-2)), (0, .ref 36), (1, .ref x1), (2, .int x2)]) hC (dX12_gotBy_7) (by decide) rfl ?_
  refine g_sub (lv' := [(0, .ref 36), (1, .ref x1), (2, .int x2), (3, .int (-2)), (4, .int 0), (5, .int 0)]) [3, 4, 5, 2, 1, 0] rfl ?_
  refine wpO_bJ h (fun KL9 hKL9 h => ?_)
  refine lX12_gotBy_9 (K1 := KL9) hC (by omega) x1 x2 (fun x3_68 x4_68 M_68 h => ?_) _ _ _ _ _ h
  have h := hKL9 _ h
  have h := wpO_p h
  have h := wpO_p h
  refine g_iload_n (i := 3) (x := x3_68) hC (dX12_gotBy_68) rfl rfl ?_
  refine g_bipush (v := (-2)) hC (dX12_gotBy_69) kb_m2 ?_
  refine g_icmp_eq (tgt := 87) hC (dX12_gotBy_71) (by decide) (fun c71 => ?_) (fun c71 => ?_)
  · have h := wpO_t c71 h
    refine g_bipush (v := (-2)) hC (dX12_gotBy_87) kb_m2 ?_
    refine g_ireturn hC hr (dX12_gotBy_89) ?_
    exact wpO_s h
  · have h := wpO_f c71 h
    refine g_iload (i := 4) (x := x4_68) hC (dX12_gotBy_74) rfl ?_
    refine g_aload_n (i := 0) (x := 36) hC (dX12_gotBy_76) rfl rfl ?_
    refine g_getI hC flX12_17 (dX12_gotBy_77) rfl rfl ?_
    refine g_icmp_lt (tgt := 87) hC (dX12_gotBy_80) (by decide) (fun c80 => ?_) (fun c80 => ?_)
    · have h := wpO_t c80 h
      refine g_bipush (v := (-2)) hC (dX12_gotBy_87) kb_m2 ?_
      refine g_ireturn hC hr (dX12_gotBy_89) ?_
      exact wpO_s h
    · have h := wpO_f c80 h
      refine g_iload_n (i := 3) (x := x3_68) hC (dX12_gotBy_83) rfl rfl ?_
      refine g_goto (tgt := 89) hC (dX12_gotBy_84) (by decide) ?_
      refine g_ireturn hC hr (dX12_gotBy_89) ?_
      exact wpO_s h
/-! LostByStateModel.goClaim([III)I -/
theorem dX12_goClaim_0 : decode cX12_goClaim 0 = .ok (.aload_n 0, 1) := by decide +kernel
theorem dX12_goClaim_1 : decode cX12_goClaim 1 = .ok (.aload_n 1, 1) := by decide +kernel
theorem dX12_goClaim_2 : decode cX12_goClaim 2 = .ok (.iload_n 3, 1) := by decide +kernel
theorem dX12_goClaim_3 : decode cX12_goClaim 3 = .ok (.invokevirtual 261, 3) := by decide +kernel
theorem dX12_goClaim_6 : decode cX12_goClaim 6 = .ok (.istore 4, 2) := by decide +kernel
theorem dX12_goClaim_8 : decode cX12_goClaim 8 = .ok (.iload 4, 2) := by decide +kernel
theorem dX12_goClaim_10 : decode cX12_goClaim 10 = .ok (.ifCond .ge 6, 3) := by decide +kernel
theorem dX12_goClaim_13 : decode cX12_goClaim 13 = .ok (.bipush (-2), 2) := by decide +kernel
theorem dX12_goClaim_15 : decode cX12_goClaim 15 = .ok (.ireturn, 1) := by decide +kernel
theorem dX12_goClaim_16 : decode cX12_goClaim 16 = .ok (.aload_n 1, 1) := by decide +kernel
theorem dX12_goClaim_17 : decode cX12_goClaim 17 = .ok (.iload 4, 2) := by decide +kernel
theorem dX12_goClaim_19 : decode cX12_goClaim 19 = .ok (.iconst 0, 1) := by decide +kernel
theorem dX12_goClaim_20 : decode cX12_goClaim 20 = .ok (.iload_n 2, 1) := by decide +kernel
theorem dX12_goClaim_21 : decode cX12_goClaim 21 = .ok (.invokestatic 251, 3) := by decide +kernel
theorem dX12_goClaim_24 : decode cX12_goClaim 24 = .ok (.aload_n 1, 1) := by decide +kernel
theorem dX12_goClaim_25 : decode cX12_goClaim 25 = .ok (.bipush 25, 2) := by decide +kernel
theorem dX12_goClaim_27 : decode cX12_goClaim 27 = .ok (.sipush 9999, 3) := by decide +kernel
theorem dX12_goClaim_30 : decode cX12_goClaim 30 = .ok (.aload_n 1, 1) := by decide +kernel
theorem dX12_goClaim_31 : decode cX12_goClaim 31 = .ok (.bipush 25, 2) := by decide +kernel
theorem dX12_goClaim_33 : decode cX12_goClaim 33 = .ok (.iaload, 1) := by decide +kernel
theorem dX12_goClaim_34 : decode cX12_goClaim 34 = .ok (.aload_n 0, 1) := by decide +kernel
theorem dX12_goClaim_35 : decode cX12_goClaim 35 = .ok (.getfield 23, 3) := by decide +kernel
theorem dX12_goClaim_38 : decode cX12_goClaim 38 = .ok (.iload 4, 2) := by decide +kernel
theorem dX12_goClaim_40 : decode cX12_goClaim 40 = .ok (.iaload, 1) := by decide +kernel
theorem dX12_goClaim_41 : decode cX12_goClaim 41 = .ok (.iadd, 1) := by decide +kernel
theorem dX12_goClaim_42 : decode cX12_goClaim 42 = .ok (.invokestatic 201, 3) := by decide +kernel
theorem dX12_goClaim_45 : decode cX12_goClaim 45 = .ok (.iastore, 1) := by decide +kernel
theorem dX12_goClaim_46 : decode cX12_goClaim 46 = .ok (.iload 4, 2) := by decide +kernel
theorem dX12_goClaim_48 : decode cX12_goClaim 48 = .ok (.ireturn, 1) := by decide +kernel
def fX12_goClaim (x1 : Nat) (x2 : Int32) (x3 : Int32) (M : zM) : Option (Int32 × zM) := (fX12_gotBy x1 x3 M).bind fun (q : Int32 × zM) => zp q fun r1 M3 =>
  if 0 ≤ r1 then (
  (fX12_goes x1 r1 0 x2 M3).bind fun (M21 : zM) =>
  if zSH x1 = .inr (0, zLen x1) then (
  if zin 25 (zLen x1) then (
  if zin r1 8 then (
  zlet (zSI M21 x1 25 (zmin 9999 ((M21.1 x1 25) + (M21.1 39 r1.toNatClampNeg)))) fun (M45 : zM) =>
  some (r1, M45)) else none) else none) else none)
  else (
  some ((-2), M3))
set_option maxHeartbeats 4000000 in
theorem cX12_goClaim_ok {E : zE} {d : Nat} (hd : 107 ≤ d) (x1 : Nat) (x2 : Int32) (x3 : Int32) (M : zM) {K : (Int32 × zM) → Prop} (h : wpO (fX12_goClaim x1 x2 x3 M) K) : CMi E d yX12_goClaim cX12_goClaim 5 (some .int) [.ref 36, .ref x1, .int x2, .int x3] M (fun r N => K (r, N)) := by
  refine CMi.of (by decide) (Nat.le_of_ble_eq_true rfl) (fun Γ hC hr => ?_)
  have hC : Cx E Γ RX12 cX12_goClaim 5 d := hC
  show G E Γ 5 0 [(0, .ref 36), (1, .ref x1), (2, .int x2), (3, .int x3)] [] M
  unfold fX12_goClaim at h
  refine g_aload_n (i := 0) (x := 36) hC (dX12_goClaim_0) rfl rfl ?_
  refine g_aload_n (i := 1) (x := x1) hC (dX12_goClaim_1) rfl rfl ?_
  refine g_iload_n (i := 3) (x := x3) hC (dX12_goClaim_2) rfl rfl ?_
  have h := wpO_b h
  refine g_callVi ([.ref x1, .int x3]) hC wvX12_261 (dX12_goClaim_3) rfl rfl (by omega) (Nat.le_of_ble_eq_true rfl) (cX12_gotBy_ok (by omega) x1 x3 M h) (fun r1 M3 h => ?_)
  have h := wpO_p h
  refine g_istore (i := 4) (lv2 := [(4, .int r1), (0, .ref 36), (1, .ref x1), (2, .int x2), (3, .int x3)]) hC (dX12_goClaim_6) (by decide) rfl ?_
  refine g_iload (i := 4) (x := r1) hC (dX12_goClaim_8) rfl ?_
  refine g_if_ge (tgt := 16) hC (dX12_goClaim_10) (by decide) (fun c10 => ?_) (fun c10 => ?_)
  · have h := wpO_t c10 h
    refine g_aload_n (i := 1) (x := x1) hC (dX12_goClaim_16) rfl rfl ?_
    refine g_iload (i := 4) (x := r1) hC (dX12_goClaim_17) rfl ?_
    refine g_iconst (v := 0) hC (dX12_goClaim_19) kc_0 ?_
    refine g_iload_n (i := 2) (x := x2) hC (dX12_goClaim_20) rfl rfl ?_
    have h := wpO_b h
    refine g_callSv ([.ref x1, .int r1, .int 0, .int x2]) hC wsX12_251 (dX12_goClaim_21) rfl (by omega) (Nat.le_of_ble_eq_true rfl) (cX12_goes_ok (by omega) x1 r1 0 x2 M3 h) (fun M21 h => ?_)
    refine g_aload_n (i := 1) (x := x1) hC (dX12_goClaim_24) rfl rfl ?_
    refine g_bipush (v := 25) hC (dX12_goClaim_25) kb_25 ?_
    refine g_sipush (v := 9999) hC (dX12_goClaim_27) ks_9999 ?_
    refine g_aload_n (i := 1) (x := x1) hC (dX12_goClaim_30) rfl rfl ?_
    refine g_bipush (v := 25) hC (dX12_goClaim_31) kb_25 ?_
    obtain ⟨q3, h⟩ := wpO_g h
    obtain ⟨q4, h⟩ := wpO_g h
    refine g_iaload (n := (zLen x1)) hC (dX12_goClaim_33) q3 q4 ?_
    refine g_aload_n (i := 0) (x := 36) hC (dX12_goClaim_34) rfl rfl ?_
    refine g_getR (r := 39) hC flX12_23 (dX12_goClaim_35) rfl rfl rfl ?_
    refine g_iload (i := 4) (x := r1) hC (dX12_goClaim_38) rfl ?_
    obtain ⟨q5, h⟩ := wpO_g h
    refine g_iaload (n := 8) hC (dX12_goClaim_40) rfl q5 ?_
    refine g_iadd hC (dX12_goClaim_41) ?_
    refine g_min hC wmX12_201 (dX12_goClaim_42) (by omega) (Nat.le_of_ble_eq_true rfl) ?_
    refine g_iastore (n := (zLen x1)) hC (dX12_goClaim_45) q3 q4 ?_
    refine g_nmM (fun M45 e_M45 => ?_)
    have h := wpO_n e_M45 h
    refine g_iload (i := 4) (x := r1) hC (dX12_goClaim_46) rfl ?_
    refine g_ireturn hC hr (dX12_goClaim_48) ?_
    exact wpO_s h
  · have h := wpO_f c10 h
    refine g_bipush (v := (-2)) hC (dX12_goClaim_13) kb_m2 ?_
    refine g_ireturn hC hr (dX12_goClaim_15) ?_
    exact wpO_s h
/-! LostByStateModel.claim(II)I -/
theorem dX12_claim_0 : decode cX12_claim 0 = .ok (.aload_n 0, 1) := by decide +kernel
theorem dX12_claim_1 : decode cX12_claim 1 = .ok (.iconst 0, 1) := by decide +kernel
theorem dX12_claim_2 : decode cX12_claim 2 = .ok (.putfield 86, 3) := by decide +kernel
theorem dX12_claim_5 : decode cX12_claim 5 = .ok (.iload_n 1, 1) := by decide +kernel
theorem dX12_claim_6 : decode cX12_claim 6 = .ok (.iconst 0, 1) := by decide +kernel
theorem dX12_claim_7 : decode cX12_claim 7 = .ok (.bipush 6, 2) := by decide +kernel
theorem dX12_claim_9 : decode cX12_claim 9 = .ok (.invokestatic 95, 3) := by decide +kernel
theorem dX12_claim_12 : decode cX12_claim 12 = .ok (.ifCond .eq 10, 3) := by decide +kernel
theorem dX12_claim_15 : decode cX12_claim 15 = .ok (.iload_n 2, 1) := by decide +kernel
theorem dX12_claim_16 : decode cX12_claim 16 = .ok (.invokestatic 264, 3) := by decide +kernel
theorem dX12_claim_19 : decode cX12_claim 19 = .ok (.ifCond .ne 5, 3) := by decide +kernel
theorem dX12_claim_22 : decode cX12_claim 22 = .ok (.iconst (-1), 1) := by decide +kernel
theorem dX12_claim_23 : decode cX12_claim 23 = .ok (.ireturn, 1) := by decide +kernel
theorem dX12_claim_24 : decode cX12_claim 24 = .ok (.aload_n 0, 1) := by decide +kernel
theorem dX12_claim_25 : decode cX12_claim 25 = .ok (.aload_n 0, 1) := by decide +kernel
theorem dX12_claim_26 : decode cX12_claim 26 = .ok (.getfield 9, 3) := by decide +kernel
theorem dX12_claim_29 : decode cX12_claim 29 = .ok (.iload_n 2, 1) := by decide +kernel
theorem dX12_claim_30 : decode cX12_claim 30 = .ok (.invokevirtual 261, 3) := by decide +kernel
theorem dX12_claim_33 : decode cX12_claim 33 = .ok (.ifCond .ge 6, 3) := by decide +kernel
theorem dX12_claim_36 : decode cX12_claim 36 = .ok (.bipush (-2), 2) := by decide +kernel
theorem dX12_claim_38 : decode cX12_claim 38 = .ok (.ireturn, 1) := by decide +kernel
theorem dX12_claim_39 : decode cX12_claim 39 = .ok (.aload_n 0, 1) := by decide +kernel
theorem dX12_claim_40 : decode cX12_claim 40 = .ok (.aload_n 0, 1) := by decide +kernel
theorem dX12_claim_41 : decode cX12_claim 41 = .ok (.getfield 9, 3) := by decide +kernel
theorem dX12_claim_44 : decode cX12_claim 44 = .ok (.invokevirtual 247, 3) := by decide +kernel
theorem dX12_claim_47 : decode cX12_claim 47 = .ok (.aload_n 0, 1) := by decide +kernel
theorem dX12_claim_48 : decode cX12_claim 48 = .ok (.aload_n 0, 1) := by decide +kernel
theorem dX12_claim_49 : decode cX12_claim 49 = .ok (.getfield 9, 3) := by decide +kernel
theorem dX12_claim_52 : decode cX12_claim 52 = .ok (.iload_n 1, 1) := by decide +kernel
theorem dX12_claim_53 : decode cX12_claim 53 = .ok (.iload_n 2, 1) := by decide +kernel
theorem dX12_claim_54 : decode cX12_claim 54 = .ok (.invokevirtual 267, 3) := by decide +kernel
theorem dX12_claim_57 : decode cX12_claim 57 = .ok (.ireturn, 1) := by decide +kernel
def fX12_claim (x1 : Int32) (x2 : Int32) (M : zM) : Option (Int32 × zM) := zlet (zSI M 36 12 0) fun (M2 : zM) =>
  if (fX12_in x1 0 6) = 0 then (
  some ((-1), M2))
  else (
  if (fX12_areMarks x2) = 0 then (
  some ((-1), M2))
  else (
  (fX12_gotBy 37 x2 M2).bind fun (q : Int32 × zM) => zp q fun r3 M30 =>
  if 0 ≤ r3 then (
  (fX12_remember 37 M30).bind fun (M44 : zM) =>
  (fX12_goClaim 37 x1 x2 M44).bind fun (q : Int32 × zM) => zp q fun r5 M54 =>
  some (r5, M54))
  else (
  some ((-2), M30))))
set_option maxHeartbeats 4000000 in
theorem cX12_claim_ok {E : zE} {d : Nat} (hd : 108 ≤ d) (x1 : Int32) (x2 : Int32) (M : zM) {K : (Int32 × zM) → Prop} (h : wpO (fX12_claim x1 x2 M) K) : CMi E d yX12_claim cX12_claim 3 (some .int) [.ref 36, .int x1, .int x2] M (fun r N => K (r, N)) := by
  refine CMi.of (by decide) (Nat.le_of_ble_eq_true rfl) (fun Γ hC hr => ?_)
  have hC : Cx E Γ RX12 cX12_claim 3 d := hC
  show G E Γ 3 0 [(0, .ref 36), (1, .int x1), (2, .int x2)] [] M
  unfold fX12_claim at h
  refine g_aload_n (i := 0) (x := 36) hC (dX12_claim_0) rfl rfl ?_
  refine g_iconst (v := 0) hC (dX12_claim_1) kc_0 ?_
  refine g_putI hC fpX12_86 (dX12_claim_2) rfl rfl rfl rfl ?_
  refine g_nmM (fun M2 e_M2 => ?_)
  have h := wpO_n e_M2 h
  refine g_iload_n (i := 1) (x := x1) hC (dX12_claim_5) rfl rfl ?_
  refine g_iconst (v := 0) hC (dX12_claim_6) kc_0 ?_
  refine g_bipush (v := 6) hC (dX12_claim_7) kb_6 ?_
  refine g_callSi ([.int x1, .int 0, .int 6]) hC wsX12_95 (dX12_claim_9) rfl (by omega) (Nat.le_of_ble_eq_true rfl) (cX12_in_ok (by omega) x1 0 6 M2 (K := fun r => r = fX12_in x1 0 6) rfl) (fun r N q => ?_)
  obtain ⟨rfl, rfl⟩ := q
  refine g_if_eq (tgt := 22) hC (dX12_claim_12) (by decide) (fun c12 => ?_) (fun c12 => ?_)
  · have h := wpO_t c12 h
    refine g_iconst (v := (-1)) hC (dX12_claim_22) kc_m1 ?_
    refine g_ireturn hC hr (dX12_claim_23) ?_
    exact wpO_s h
  · have h := wpO_f c12 h
    refine g_iload_n (i := 2) (x := x2) hC (dX12_claim_15) rfl rfl ?_
    refine g_callSi ([.int x2]) hC wsX12_264 (dX12_claim_16) rfl (by omega) (Nat.le_of_ble_eq_true rfl) (cX12_areMarks_ok (by omega) x2 M2 (K := fun r => r = fX12_areMarks x2) rfl) (fun r N q => ?_)
    obtain ⟨rfl, rfl⟩ := q
    refine g_if_ne (tgt := 24) hC (dX12_claim_19) (by decide) (fun c19 => ?_) (fun c19 => ?_)
    · have h := wpO_f c19 h
      refine g_aload_n (i := 0) (x := 36) hC (dX12_claim_24) rfl rfl ?_
      refine g_aload_n (i := 0) (x := 36) hC (dX12_claim_25) rfl rfl ?_
      refine g_getR (r := 37) hC flX12_9 (dX12_claim_26) rfl rfl rfl ?_
      refine g_iload_n (i := 2) (x := x2) hC (dX12_claim_29) rfl rfl ?_
      have h := wpO_b h
      refine g_callVi ([.ref 37, .int x2]) hC wvX12_261 (dX12_claim_30) rfl rfl (by omega) (Nat.le_of_ble_eq_true rfl) (cX12_gotBy_ok (by omega) 37 x2 M2 h) (fun r3 M30 h => ?_)
      have h := wpO_p h
      refine g_if_ge (tgt := 39) hC (dX12_claim_33) (by decide) (fun c33 => ?_) (fun c33 => ?_)
      · have h := wpO_t c33 h
        refine g_aload_n (i := 0) (x := 36) hC (dX12_claim_39) rfl rfl ?_
        refine g_aload_n (i := 0) (x := 36) hC (dX12_claim_40) rfl rfl ?_
        refine g_getR (r := 37) hC flX12_9 (dX12_claim_41) rfl rfl rfl ?_
        have h := wpO_b h
        refine g_callVv ([.ref 37]) hC wvX12_247 (dX12_claim_44) rfl rfl (by omega) (Nat.le_of_ble_eq_true rfl) (cX12_remember_ok (by omega) 37 M30 h) (fun M44 h => ?_)
        refine g_aload_n (i := 0) (x := 36) hC (dX12_claim_47) rfl rfl ?_
        refine g_aload_n (i := 0) (x := 36) hC (dX12_claim_48) rfl rfl ?_
        refine g_getR (r := 37) hC flX12_9 (dX12_claim_49) rfl rfl rfl ?_
        refine g_iload_n (i := 1) (x := x1) hC (dX12_claim_52) rfl rfl ?_
        refine g_iload_n (i := 2) (x := x2) hC (dX12_claim_53) rfl rfl ?_
        have h := wpO_b h
        refine g_callVi ([.ref 37, .int x1, .int x2]) hC wvX12_267 (dX12_claim_54) rfl rfl (by omega) (Nat.le_of_ble_eq_true rfl) (cX12_goClaim_ok (by omega) 37 x1 x2 M44 h) (fun r5 M54 h => ?_)
        have h := wpO_p h
        refine g_ireturn hC hr (dX12_claim_57) ?_
        exact wpO_s h
      · have h := wpO_f c33 h
        refine g_bipush (v := (-2)) hC (dX12_claim_36) kb_m2 ?_
        refine g_ireturn hC hr (dX12_claim_38) ?_
        exact wpO_s h
    · have h := wpO_t c19 h
      refine g_iconst (v := (-1)) hC (dX12_claim_22) kc_m1 ?_
      refine g_ireturn hC hr (dX12_claim_23) ?_
      exact wpO_s h
/-! LostByStateModel.refusesGift(II)I -/
theorem dX12_refusesGift_0 : decode cX12_refusesGift 0 = .ok (.aload_n 0, 1) := by decide +kernel
theorem dX12_refusesGift_1 : decode cX12_refusesGift 1 = .ok (.iload_n 1, 1) := by decide +kernel
theorem dX12_refusesGift_2 : decode cX12_refusesGift 2 = .ok (.invokevirtual 220, 3) := by decide +kernel
theorem dX12_refusesGift_5 : decode cX12_refusesGift 5 = .ok (.ifCond .eq 13, 3) := by decide +kernel
theorem dX12_refusesGift_8 : decode cX12_refusesGift 8 = .ok (.iload_n 2, 1) := by decide +kernel
theorem dX12_refusesGift_9 : decode cX12_refusesGift 9 = .ok (.iconst 0, 1) := by decide +kernel
theorem dX12_refusesGift_10 : decode cX12_refusesGift 10 = .ok (.bipush 6, 2) := by decide +kernel
theorem dX12_refusesGift_12 : decode cX12_refusesGift 12 = .ok (.invokestatic 95, 3) := by decide +kernel
theorem dX12_refusesGift_15 : decode cX12_refusesGift 15 = .ok (.ifCond .ne 5, 3) := by decide +kernel
theorem dX12_refusesGift_18 : decode cX12_refusesGift 18 = .ok (.iconst (-1), 1) := by decide +kernel
theorem dX12_refusesGift_19 : decode cX12_refusesGift 19 = .ok (.ireturn, 1) := by decide +kernel
theorem dX12_refusesGift_20 : decode cX12_refusesGift 20 = .ok (.aload_n 0, 1) := by decide +kernel
theorem dX12_refusesGift_21 : decode cX12_refusesGift 21 = .ok (.getfield 9, 3) := by decide +kernel
theorem dX12_refusesGift_24 : decode cX12_refusesGift 24 = .ok (.iload_n 1, 1) := by decide +kernel
theorem dX12_refusesGift_25 : decode cX12_refusesGift 25 = .ok (.iaload, 1) := by decide +kernel
theorem dX12_refusesGift_26 : decode cX12_refusesGift 26 = .ok (.ifCond .ne 20, 3) := by decide +kernel
theorem dX12_refusesGift_29 : decode cX12_refusesGift 29 = .ok (.aload_n 0, 1) := by decide +kernel
theorem dX12_refusesGift_30 : decode cX12_refusesGift 30 = .ok (.getfield 9, 3) := by decide +kernel
theorem dX12_refusesGift_33 : decode cX12_refusesGift 33 = .ok (.bipush 8, 2) := by decide +kernel
theorem dX12_refusesGift_35 : decode cX12_refusesGift 35 = .ok (.iload_n 1, 1) := by decide +kernel
theorem dX12_refusesGift_36 : decode cX12_refusesGift 36 = .ok (.iadd, 1) := by decide +kernel
theorem dX12_refusesGift_37 : decode cX12_refusesGift 37 = .ok (.iaload, 1) := by decide +kernel
theorem dX12_refusesGift_38 : decode cX12_refusesGift 38 = .ok (.iload_n 2, 1) := by decide +kernel
theorem dX12_refusesGift_39 : decode cX12_refusesGift 39 = .ok (.if_icmp .eq 7, 3) := by decide +kernel
theorem dX12_refusesGift_42 : decode cX12_refusesGift 42 = .ok (.iconst 0, 1) := by decide +kernel
theorem dX12_refusesGift_43 : decode cX12_refusesGift 43 = .ok (.goto 5, 3) := by decide +kernel
theorem dX12_refusesGift_46 : decode cX12_refusesGift 46 = .ok (.bipush (-2), 2) := by decide +kernel
theorem dX12_refusesGift_48 : decode cX12_refusesGift 48 = .ok (.ireturn, 1) := by decide +kernel
def fX12_refusesGift (x1 : Int32) (x2 : Int32) (M : zM) : Option Int32 := if (fX12_isThing x1 M) = 0 then (
  some (-1))
  else (
  if (fX12_in x2 0 6) = 0 then (
  some (-1))
  else (
  if zin x1 26 then (
  if (M.1 37 x1.toNatClampNeg) = 0 then (
  if zin (8 + x1) 26 then (
  if (M.1 37 (8 + x1).toNatClampNeg) = x2 then (
  some (-2))
  else (
  some 0)) else none)
  else (
  some (-2))) else none))
set_option maxHeartbeats 4000000 in
theorem cX12_refusesGift_ok {E : zE} {d : Nat} (hd : 2 ≤ d) (x1 : Int32) (x2 : Int32) (M : zM) {K : Int32 → Prop} (h : wpO (fX12_refusesGift x1 x2 M) K) : CMi E d yX12_refusesGift cX12_refusesGift 3 (some .int) [.ref 36, .int x1, .int x2] M (fun r N => M = N ∧ K r) := by
  refine CMi.of (by decide) (Nat.le_of_ble_eq_true rfl) (fun Γ hC hr => ?_)
  have hC : Cx E Γ RX12 cX12_refusesGift 3 d := hC
  show G E Γ 3 0 [(0, .ref 36), (1, .int x1), (2, .int x2)] [] M
  unfold fX12_refusesGift at h
  refine g_aload_n (i := 0) (x := 36) hC (dX12_refusesGift_0) rfl rfl ?_
  refine g_iload_n (i := 1) (x := x1) hC (dX12_refusesGift_1) rfl rfl ?_
  refine g_callVi ([.int x1]) hC wvX12_220 (dX12_refusesGift_2) rfl rfl (by omega) (Nat.le_of_ble_eq_true rfl) (cX12_isThing_ok (by omega) x1 M (K := fun r => r = fX12_isThing x1 M) rfl) (fun r N q => ?_)
  obtain ⟨rfl, rfl⟩ := q
  refine g_if_eq (tgt := 18) hC (dX12_refusesGift_5) (by decide) (fun c5 => ?_) (fun c5 => ?_)
  · have h := wpO_t c5 h
    refine g_iconst (v := (-1)) hC (dX12_refusesGift_18) kc_m1 ?_
    refine g_ireturn hC hr (dX12_refusesGift_19) ?_
    exact ⟨rfl, wpO_s h⟩
  · have h := wpO_f c5 h
    refine g_iload_n (i := 2) (x := x2) hC (dX12_refusesGift_8) rfl rfl ?_
    refine g_iconst (v := 0) hC (dX12_refusesGift_9) kc_0 ?_
    refine g_bipush (v := 6) hC (dX12_refusesGift_10) kb_6 ?_
    refine g_callSi ([.int x2, .int 0, .int 6]) hC wsX12_95 (dX12_refusesGift_12) rfl (by omega) (Nat.le_of_ble_eq_true rfl) (cX12_in_ok (by omega) x2 0 6 M (K := fun r => r = fX12_in x2 0 6) rfl) (fun r N q => ?_)
    obtain ⟨rfl, rfl⟩ := q
    refine g_if_ne (tgt := 20) hC (dX12_refusesGift_15) (by decide) (fun c15 => ?_) (fun c15 => ?_)
    · have h := wpO_f c15 h
      refine g_aload_n (i := 0) (x := 36) hC (dX12_refusesGift_20) rfl rfl ?_
      refine g_getR (r := 37) hC flX12_9 (dX12_refusesGift_21) rfl rfl rfl ?_
      refine g_iload_n (i := 1) (x := x1) hC (dX12_refusesGift_24) rfl rfl ?_
      obtain ⟨q3, h⟩ := wpO_g h
      refine g_iaload (n := 26) hC (dX12_refusesGift_25) rfl q3 ?_
      refine g_if_ne (tgt := 46) hC (dX12_refusesGift_26) (by decide) (fun c26 => ?_) (fun c26 => ?_)
      · have h := wpO_f c26 h
        refine g_bipush (v := (-2)) hC (dX12_refusesGift_46) kb_m2 ?_
        refine g_ireturn hC hr (dX12_refusesGift_48) ?_
        exact ⟨rfl, wpO_s h⟩
      · have h := wpO_t c26 h
        refine g_aload_n (i := 0) (x := 36) hC (dX12_refusesGift_29) rfl rfl ?_
        refine g_getR (r := 37) hC flX12_9 (dX12_refusesGift_30) rfl rfl rfl ?_
        refine g_bipush (v := 8) hC (dX12_refusesGift_33) kb_8 ?_
        refine g_iload_n (i := 1) (x := x1) hC (dX12_refusesGift_35) rfl rfl ?_
        refine g_iadd hC (dX12_refusesGift_36) ?_
        obtain ⟨q4, h⟩ := wpO_g h
        refine g_iaload (n := 26) hC (dX12_refusesGift_37) rfl q4 ?_
        refine g_iload_n (i := 2) (x := x2) hC (dX12_refusesGift_38) rfl rfl ?_
        refine g_icmp_eq (tgt := 46) hC (dX12_refusesGift_39) (by decide) (fun c39 => ?_) (fun c39 => ?_)
        · have h := wpO_t c39 h
          refine g_bipush (v := (-2)) hC (dX12_refusesGift_46) kb_m2 ?_
          refine g_ireturn hC hr (dX12_refusesGift_48) ?_
          exact ⟨rfl, wpO_s h⟩
        · have h := wpO_f c39 h
          refine g_iconst (v := 0) hC (dX12_refusesGift_42) kc_0 ?_
          refine g_goto (tgt := 48) hC (dX12_refusesGift_43) (by decide) ?_
          refine g_ireturn hC hr (dX12_refusesGift_48) ?_
          exact ⟨rfl, wpO_s h⟩
    · have h := wpO_t c15 h
      refine g_iconst (v := (-1)) hC (dX12_refusesGift_18) kc_m1 ?_
      refine g_ireturn hC hr (dX12_refusesGift_19) ?_
      exact ⟨rfl, wpO_s h⟩
/-! LostByStateModel.gives(II)I -/
theorem dX12_gives_0 : decode cX12_gives 0 = .ok (.aload_n 0, 1) := by decide +kernel
theorem dX12_gives_1 : decode cX12_gives 1 = .ok (.iconst 0, 1) := by decide +kernel
theorem dX12_gives_2 : decode cX12_gives 2 = .ok (.putfield 86, 3) := by decide +kernel
theorem dX12_gives_5 : decode cX12_gives 5 = .ok (.aload_n 0, 1) := by decide +kernel
theorem dX12_gives_6 : decode cX12_gives 6 = .ok (.iload_n 1, 1) := by decide +kernel
theorem dX12_gives_7 : decode cX12_gives 7 = .ok (.iload_n 2, 1) := by decide +kernel
theorem dX12_gives_8 : decode cX12_gives 8 = .ok (.invokevirtual 270, 3) := by decide +kernel
theorem dX12_gives_11 : decode cX12_gives 11 = .ok (.istore_n 3, 1) := by decide +kernel
theorem dX12_gives_12 : decode cX12_gives 12 = .ok (.iload_n 3, 1) := by decide +kernel
theorem dX12_gives_13 : decode cX12_gives 13 = .ok (.ifCond .ge 5, 3) := by decide +kernel
theorem dX12_gives_16 : decode cX12_gives 16 = .ok (.iload_n 3, 1) := by decide +kernel
theorem dX12_gives_17 : decode cX12_gives 17 = .ok (.ireturn, 1) := by decide +kernel
theorem dX12_gives_18 : decode cX12_gives 18 = .ok (.aload_n 0, 1) := by decide +kernel
theorem dX12_gives_19 : decode cX12_gives 19 = .ok (.aload_n 0, 1) := by decide +kernel
theorem dX12_gives_20 : decode cX12_gives 20 = .ok (.getfield 9, 3) := by decide +kernel
theorem dX12_gives_23 : decode cX12_gives 23 = .ok (.invokevirtual 247, 3) := by decide +kernel
theorem dX12_gives_26 : decode cX12_gives 26 = .ok (.aload_n 0, 1) := by decide +kernel
theorem dX12_gives_27 : decode cX12_gives 27 = .ok (.getfield 9, 3) := by decide +kernel
theorem dX12_gives_30 : decode cX12_gives 30 = .ok (.bipush 8, 2) := by decide +kernel
theorem dX12_gives_32 : decode cX12_gives 32 = .ok (.iload_n 1, 1) := by decide +kernel
theorem dX12_gives_33 : decode cX12_gives 33 = .ok (.iadd, 1) := by decide +kernel
theorem dX12_gives_34 : decode cX12_gives 34 = .ok (.iaload, 1) := by decide +kernel
theorem dX12_gives_35 : decode cX12_gives 35 = .ok (.istore 4, 2) := by decide +kernel
theorem dX12_gives_37 : decode cX12_gives 37 = .ok (.aload_n 0, 1) := by decide +kernel
theorem dX12_gives_38 : decode cX12_gives 38 = .ok (.getfield 9, 3) := by decide +kernel
theorem dX12_gives_41 : decode cX12_gives 41 = .ok (.bipush 8, 2) := by decide +kernel
theorem dX12_gives_43 : decode cX12_gives 43 = .ok (.iload_n 1, 1) := by decide +kernel
theorem dX12_gives_44 : decode cX12_gives 44 = .ok (.iadd, 1) := by decide +kernel
theorem dX12_gives_45 : decode cX12_gives 45 = .ok (.iload_n 2, 1) := by decide +kernel
theorem dX12_gives_46 : decode cX12_gives 46 = .ok (.iastore, 1) := by decide +kernel
theorem dX12_gives_47 : decode cX12_gives 47 = .ok (.iload 4, 2) := by decide +kernel
theorem dX12_gives_49 : decode cX12_gives 49 = .ok (.ireturn, 1) := by decide +kernel
def fX12_gives (x1 : Int32) (x2 : Int32) (M : zM) : Option (Int32 × zM) := zlet (zSI M 36 12 0) fun (M2 : zM) =>
  (fX12_refusesGift x1 x2 M2).bind fun (r1 : Int32) =>
  if 0 ≤ r1 then (
  (fX12_remember 37 M2).bind fun (M23 : zM) =>
  if zin (8 + x1) 26 then (
  zlet (M23.1 37 (8 + x1).toNatClampNeg) fun (x4_35 : Int32) =>
  zlet (zSI M23 37 (8 + x1).toNatClampNeg x2) fun (M46 : zM) =>
  some (x4_35, M46)) else none)
  else (
  some (r1, M2))
set_option maxHeartbeats 4000000 in
theorem cX12_gives_ok {E : zE} {d : Nat} (hd : 3 ≤ d) (x1 : Int32) (x2 : Int32) (M : zM) {K : (Int32 × zM) → Prop} (h : wpO (fX12_gives x1 x2 M) K) : CMi E d yX12_gives cX12_gives 5 (some .int) [.ref 36, .int x1, .int x2] M (fun r N => K (r, N)) := by
  refine CMi.of (by decide) (Nat.le_of_ble_eq_true rfl) (fun Γ hC hr => ?_)
  have hC : Cx E Γ RX12 cX12_gives 5 d := hC
  show G E Γ 5 0 [(0, .ref 36), (1, .int x1), (2, .int x2)] [] M
  unfold fX12_gives at h
  refine g_aload_n (i := 0) (x := 36) hC (dX12_gives_0) rfl rfl ?_
  refine g_iconst (v := 0) hC (dX12_gives_1) kc_0 ?_
  refine g_putI hC fpX12_86 (dX12_gives_2) rfl rfl rfl rfl ?_
  refine g_nmM (fun M2 e_M2 => ?_)
  have h := wpO_n e_M2 h
  refine g_aload_n (i := 0) (x := 36) hC (dX12_gives_5) rfl rfl ?_
  refine g_iload_n (i := 1) (x := x1) hC (dX12_gives_6) rfl rfl ?_
  refine g_iload_n (i := 2) (x := x2) hC (dX12_gives_7) rfl rfl ?_
  have h := wpO_b h
  refine g_callVi ([.int x1, .int x2]) hC wvX12_270 (dX12_gives_8) rfl rfl (by omega) (Nat.le_of_ble_eq_true rfl) (cX12_refusesGift_ok (by omega) x1 x2 M2 h) (fun r1 N q => ?_)
  obtain ⟨rfl, h⟩ := q
  refine g_istore_n (i := 3) (lv2 := [(3, .int r1), (0, .ref 36), (1, .int x1), (2, .int x2)]) hC (dX12_gives_11) rfl (by decide) rfl ?_
  refine g_iload_n (i := 3) (x := r1) hC (dX12_gives_12) rfl rfl ?_
  refine g_if_ge (tgt := 18) hC (dX12_gives_13) (by decide) (fun c13 => ?_) (fun c13 => ?_)
  · have h := wpO_t c13 h
    refine g_aload_n (i := 0) (x := 36) hC (dX12_gives_18) rfl rfl ?_
    refine g_aload_n (i := 0) (x := 36) hC (dX12_gives_19) rfl rfl ?_
    refine g_getR (r := 37) hC flX12_9 (dX12_gives_20) rfl rfl rfl ?_
    have h := wpO_b h
    refine g_callVv ([.ref 37]) hC wvX12_247 (dX12_gives_23) rfl rfl (by omega) (Nat.le_of_ble_eq_true rfl) (cX12_remember_ok (by omega) 37 M2 h) (fun M23 h => ?_)
    refine g_aload_n (i := 0) (x := 36) hC (dX12_gives_26) rfl rfl ?_
    refine g_getR (r := 37) hC flX12_9 (dX12_gives_27) rfl rfl rfl ?_
    refine g_bipush (v := 8) hC (dX12_gives_30) kb_8 ?_
    refine g_iload_n (i := 1) (x := x1) hC (dX12_gives_32) rfl rfl ?_
    refine g_iadd hC (dX12_gives_33) ?_
    obtain ⟨q3, h⟩ := wpO_g h
    refine g_iaload (n := 26) hC (dX12_gives_34) rfl q3 ?_
    refine g_nmi (fun x4_35 e_x4_35 => ?_)
    have h := wpO_n e_x4_35 h
    refine g_istore (i := 4) (lv2 := [(4, .int x4_35), (3, .int r1), (0, .ref 36), (1, .int x1), (2, .int x2)]) hC (dX12_gives_35) (by decide) rfl ?_
    refine g_aload_n (i := 0) (x := 36) hC (dX12_gives_37) rfl rfl ?_
    refine g_getR (r := 37) hC flX12_9 (dX12_gives_38) rfl rfl rfl ?_
    refine g_bipush (v := 8) hC (dX12_gives_41) kb_8 ?_
    refine g_iload_n (i := 1) (x := x1) hC (dX12_gives_43) rfl rfl ?_
    refine g_iadd hC (dX12_gives_44) ?_
    refine g_iload_n (i := 2) (x := x2) hC (dX12_gives_45) rfl rfl ?_
    refine g_iastore (n := 26) hC (dX12_gives_46) rfl q3 ?_
    refine g_nmM (fun M46 e_M46 => ?_)
    have h := wpO_n e_M46 h
    refine g_iload (i := 4) (x := x4_35) hC (dX12_gives_47) rfl ?_
    refine g_ireturn hC hr (dX12_gives_49) ?_
    exact wpO_s h
  · have h := wpO_f c13 h
    refine g_iload_n (i := 3) (x := r1) hC (dX12_gives_16) rfl rfl ?_
    refine g_ireturn hC hr (dX12_gives_17) ?_
    exact wpO_s h
/-! LostByStateModel.goDay([I)I -/
theorem dX12_goDay_0 : decode cX12_goDay 0 = .ok (.iconst 0, 1) := by decide +kernel
theorem dX12_goDay_1 : decode cX12_goDay 1 = .ok (.istore_n 2, 1) := by decide +kernel
theorem dX12_goDay_2 : decode cX12_goDay 2 = .ok (.iconst 0, 1) := by decide +kernel
theorem dX12_goDay_3 : decode cX12_goDay 3 = .ok (.istore_n 3, 1) := by decide +kernel
theorem dX12_goDay_4 : decode cX12_goDay 4 = .ok (.iload_n 3, 1) := by decide +kernel
theorem dX12_goDay_5 : decode cX12_goDay 5 = .ok (.aload_n 0, 1) := by decide +kernel
theorem dX12_goDay_6 : decode cX12_goDay 6 = .ok (.getfield 92, 3) := by decide +kernel
theorem dX12_goDay_9 : decode cX12_goDay 9 = .ok (.if_icmp .ge 72, 3) := by decide +kernel
theorem dX12_goDay_12 : decode cX12_goDay 12 = .ok (.aload_n 1, 1) := by decide +kernel
theorem dX12_goDay_13 : decode cX12_goDay 13 = .ok (.iload_n 3, 1) := by decide +kernel
theorem dX12_goDay_14 : decode cX12_goDay 14 = .ok (.iaload, 1) := by decide +kernel
theorem dX12_goDay_15 : decode cX12_goDay 15 = .ok (.iconst 2, 1) := by decide +kernel
theorem dX12_goDay_16 : decode cX12_goDay 16 = .ok (.if_icmp .eq 6, 3) := by decide +kernel
theorem dX12_goDay_19 : decode cX12_goDay 19 = .ok (.goto 56, 3) := by decide +kernel
theorem dX12_goDay_22 : decode cX12_goDay 22 = .ok (.aload_n 1, 1) := by decide +kernel
theorem dX12_goDay_23 : decode cX12_goDay 23 = .ok (.bipush 16, 2) := by decide +kernel
theorem dX12_goDay_25 : decode cX12_goDay 25 = .ok (.iload_n 3, 1) := by decide +kernel
theorem dX12_goDay_26 : decode cX12_goDay 26 = .ok (.iadd, 1) := by decide +kernel
theorem dX12_goDay_27 : decode cX12_goDay 27 = .ok (.bipush 99, 2) := by decide +kernel
theorem dX12_goDay_29 : decode cX12_goDay 29 = .ok (.aload_n 1, 1) := by decide +kernel
theorem dX12_goDay_30 : decode cX12_goDay 30 = .ok (.bipush 16, 2) := by decide +kernel
theorem dX12_goDay_32 : decode cX12_goDay 32 = .ok (.iload_n 3, 1) := by decide +kernel
theorem dX12_goDay_33 : decode cX12_goDay 33 = .ok (.iadd, 1) := by decide +kernel
theorem dX12_goDay_34 : decode cX12_goDay 34 = .ok (.iaload, 1) := by decide +kernel
theorem dX12_goDay_35 : decode cX12_goDay 35 = .ok (.iconst 1, 1) := by decide +kernel
theorem dX12_goDay_36 : decode cX12_goDay 36 = .ok (.iadd, 1) := by decide +kernel
theorem dX12_goDay_37 : decode cX12_goDay 37 = .ok (.invokestatic 201, 3) := by decide +kernel
theorem dX12_goDay_40 : decode cX12_goDay 40 = .ok (.iastore, 1) := by decide +kernel
theorem dX12_goDay_41 : decode cX12_goDay 41 = .ok (.aload_n 1, 1) := by decide +kernel
theorem dX12_goDay_42 : decode cX12_goDay 42 = .ok (.bipush 16, 2) := by decide +kernel
theorem dX12_goDay_44 : decode cX12_goDay 44 = .ok (.iload_n 3, 1) := by decide +kernel
theorem dX12_goDay_45 : decode cX12_goDay 45 = .ok (.iadd, 1) := by decide +kernel
theorem dX12_goDay_46 : decode cX12_goDay 46 = .ok (.iaload, 1) := by decide +kernel
theorem dX12_goDay_47 : decode cX12_goDay 47 = .ok (.aload_n 0, 1) := by decide +kernel
theorem dX12_goDay_48 : decode cX12_goDay 48 = .ok (.getfield 13, 3) := by decide +kernel
theorem dX12_goDay_51 : decode cX12_goDay 51 = .ok (.if_icmp .ge 6, 3) := by decide +kernel
theorem dX12_goDay_54 : decode cX12_goDay 54 = .ok (.goto 21, 3) := by decide +kernel
theorem dX12_goDay_57 : decode cX12_goDay 57 = .ok (.aload_n 1, 1) := by decide +kernel
theorem dX12_goDay_58 : decode cX12_goDay 58 = .ok (.iload_n 3, 1) := by decide +kernel
theorem dX12_goDay_59 : decode cX12_goDay 59 = .ok (.iconst 0, 1) := by decide +kernel
theorem dX12_goDay_60 : decode cX12_goDay 60 = .ok (.aload_n 1, 1) := by decide +kernel
theorem dX12_goDay_61 : decode cX12_goDay 61 = .ok (.bipush 8, 2) := by decide +kernel
theorem dX12_goDay_63 : decode cX12_goDay 63 = .ok (.iload_n 3, 1) := by decide +kernel
theorem dX12_goDay_64 : decode cX12_goDay 64 = .ok (.iadd, 1) := by decide +kernel
theorem dX12_goDay_65 : decode cX12_goDay 65 = .ok (.iaload, 1) := by decide +kernel
theorem dX12_goDay_66 : decode cX12_goDay 66 = .ok (.invokestatic 251, 3) := by decide +kernel
theorem dX12_goDay_69 : decode cX12_goDay 69 = .ok (.iload_n 2, 1) := by decide +kernel
theorem dX12_goDay_70 : decode cX12_goDay 70 = .ok (.iconst 1, 1) := by decide +kernel
theorem dX12_goDay_71 : decode cX12_goDay 71 = .ok (.iload_n 3, 1) := by decide +kernel
theorem dX12_goDay_72 : decode cX12_goDay 72 = .ok (.ishl, 1) := by decide +kernel
theorem dX12_goDay_73 : decode cX12_goDay 73 = .ok (.ior, 1) := by decide +kernel
theorem dX12_goDay_74 : decode cX12_goDay 74 = .ok (.istore_n 2, 1) := by decide +kernel
theorem dX12_goDay_75 : decode cX12_goDay 75 = .ok (.iinc 3 1, 3) := by decide +kernel
theorem dX12_goDay_78 : decode cX12_goDay 78 = .ok (.goto (-74), 3) := by decide +kernel
theorem dX12_goDay_81 : decode cX12_goDay 81 = .ok (.aload_n 1, 1) := by decide +kernel
theorem dX12_goDay_82 : decode cX12_goDay 82 = .ok (.bipush 24, 2) := by decide +kernel
theorem dX12_goDay_84 : decode cX12_goDay 84 = .ok (.dup2, 1) := by decide +kernel
theorem dX12_goDay_85 : decode cX12_goDay 85 = .ok (.iaload, 1) := by decide +kernel
theorem dX12_goDay_86 : decode cX12_goDay 86 = .ok (.iconst 1, 1) := by decide +kernel
theorem dX12_goDay_87 : decode cX12_goDay 87 = .ok (.iadd, 1) := by decide +kernel
theorem dX12_goDay_88 : decode cX12_goDay 88 = .ok (.iastore, 1) := by decide +kernel
theorem dX12_goDay_89 : decode cX12_goDay 89 = .ok (.iload_n 2, 1) := by decide +kernel
theorem dX12_goDay_90 : decode cX12_goDay 90 = .ok (.ireturn, 1) := by decide +kernel
def fX12_goDay_L4 (x1 : Nat) : Nat → Int32 → Int32 → zM → Option (Int32 × zM)
  | 0, _, _, _ => none
  | n + 1, x2, x3, M => if (M.1 36 1) ≤ x3 then (
    some (x2, M))
    else (
    if zSH x1 = .inr (0, zLen x1) then (
    if zin x3 (zLen x1) then (
    (if (M.1 x1 x3.toNatClampNeg) = 2 then (
    if zin (16 + x3) (zLen x1) then (
    zlet (zSI M x1 (16 + x3).toNatClampNeg (zmin 99 ((M.1 x1 (16 + x3).toNatClampNeg) + 1))) fun (M40 : zM) =>
    if (M40.1 36 3) ≤ (M40.1 x1 (16 + x3).toNatClampNeg) then (
    if zin (8 + x3) (zLen x1) then (
    (fX12_goes x1 x3 0 (M40.1 x1 (8 + x3).toNatClampNeg) M40).bind fun (M66 : zM) =>
    zlet (x2 ||| (zshl 1 x3)) fun (x2_74 : Int32) =>
    some (x2_74, M66)) else none)
    else (
    some (x2, M40))) else none)
    else (
    some (x2, M)) : Option (Int32 × zM)).bind fun (q : Int32 × zM) => zp q fun x2_75 M_75 =>
    fX12_goDay_L4 x1 n x2_75 (x3 + 1) M_75) else none) else none)
def fX12_goDay (x1 : Nat) (M : zM) : Option (Int32 × zM) := (fX12_goDay_L4 x1 4000 0 0 M).bind fun (q : Int32 × zM) => zp q fun x2_81 M_81 =>
  if zSH x1 = .inr (0, zLen x1) then (
  if zin 24 (zLen x1) then (
  zlet (zSI M_81 x1 24 ((M_81.1 x1 24) + 1)) fun (M88 : zM) =>
  some (x2_81, M88)) else none) else none
set_option maxHeartbeats 4000000 in
theorem lX12_goDay_4 {E : zE} {Γ : zT} {d : Nat} {K1 : (Int32 × zM) → Prop} (hC : Cx E Γ RX12 cX12_goDay 4 d) (hd : 1 ≤ d) (x1 : Nat) (hx : ∀ (x2_81 : Int32) (M_81 : zM), K1 (x2_81, M_81) → G E Γ 4 81 [(1, .ref x1), (2, .int x2_81)] [] M_81) :
    ∀ (n : Nat) (x2 : Int32) (x3 : Int32) (M : zM), wpO (fX12_goDay_L4 x1 n x2 x3 M) K1 → G E Γ 4 4 [(0, .ref 36), (1, .ref x1), (2, .int x2), (3, .int x3)] [] M := by
  intro n
  induction n with
  | zero =>
    intro x2 x3 M h
    exact (wpO_0 h).elim
  | succ n ih =>
    intro x2 x3 M h
    rw [fX12_goDay_L4.eq_2] at h
    refine g_iload_n (i := 3) (x := x3) hC (dX12_goDay_4) rfl rfl ?_
    refine g_aload_n (i := 0) (x := 36) hC (dX12_goDay_5) rfl rfl ?_
    refine g_getI hC flX12_92 (dX12_goDay_6) rfl rfl ?_
    refine g_icmp_ge (tgt := 81) hC (dX12_goDay_9) (by decide) (fun c9 => ?_) (fun c9 => ?_)
    · have h := wpO_t c9 h
      refine g_sub (lv' := [(1, .ref x1), (2, .int x2)]) [1, 2] rfl ?_
      exact hx _ _ (wpO_s h)
    · have h := wpO_f c9 h
      refine g_aload_n (i := 1) (x := x1) hC (dX12_goDay_12) rfl rfl ?_
      refine g_iload_n (i := 3) (x := x3) hC (dX12_goDay_13) rfl rfl ?_
      obtain ⟨q1, h⟩ := wpO_g h
      obtain ⟨q2, h⟩ := wpO_g h
      refine g_iaload (n := (zLen x1)) hC (dX12_goDay_14) q1 q2 ?_
      refine g_iconst (v := 2) hC (dX12_goDay_15) kc_2 ?_
      refine wpO_bJ h (fun KJ3 hKJ3 h => ?_)
      have hJ3 : ∀ (x2_75 : Int32) (M_75 : zM), KJ3 (x2_75, M_75) → G E Γ 4 75 [(0, .ref 36), (1, .ref x1), (2, .int x2_75), (3, .int x3)] [] M_75 := by
        intro x2_75 M_75 h
        have h := hKJ3 _ h
        have h := wpO_p h
        refine g_iinc (x := x3) (v := (x3 + 1)) (lv2 := [(3, .int (x3 + 1)), (0, .ref 36), (1, .ref x1), (2, .int x2_75)]) hC (dX12_goDay_75) rfl rfl (by decide) rfl ?_
        refine g_goto (tgt := 4) hC (dX12_goDay_78) (by decide) ?_
        refine g_sub (lv' := [(0, .ref 36), (1, .ref x1), (2, .int x2_75), (3, .int (x3 + 1))]) [1, 2, 3, 0] rfl ?_
        exact ih _ _ _ h
      refine g_icmp_eq (tgt := 22) hC (dX12_goDay_16) (by decide) (fun c16 => ?_) (fun c16 => ?_)
      · have h := wpO_t c16 h
        refine g_aload_n (i := 1) (x := x1) hC (dX12_goDay_22) rfl rfl ?_
        refine g_bipush (v := 16) hC (dX12_goDay_23) kb_16 ?_
        refine g_iload_n (i := 3) (x := x3) hC (dX12_goDay_25) rfl rfl ?_
        refine g_iadd hC (dX12_goDay_26) ?_
        refine g_bipush (v := 99) hC (dX12_goDay_27) kb_99 ?_
        refine g_aload_n (i := 1) (x := x1) hC (dX12_goDay_29) rfl rfl ?_
        refine g_bipush (v := 16) hC (dX12_goDay_30) kb_16 ?_
        refine g_iload_n (i := 3) (x := x3) hC (dX12_goDay_32) rfl rfl ?_
        refine g_iadd hC (dX12_goDay_33) ?_
        obtain ⟨q4, h⟩ := wpO_g h
        refine g_iaload (n := (zLen x1)) hC (dX12_goDay_34) q1 q4 ?_
        refine g_iconst (v := 1) hC (dX12_goDay_35) kc_1 ?_
        refine g_iadd hC (dX12_goDay_36) ?_
        refine g_min hC wmX12_201 (dX12_goDay_37) (by omega) (Nat.le_of_ble_eq_true rfl) ?_
        refine g_iastore (n := (zLen x1)) hC (dX12_goDay_40) q1 q4 ?_
        refine g_nmM (fun M40 e_M40 => ?_)
        have h := wpO_n e_M40 h
        refine g_aload_n (i := 1) (x := x1) hC (dX12_goDay_41) rfl rfl ?_
        refine g_bipush (v := 16) hC (dX12_goDay_42) kb_16 ?_
        refine g_iload_n (i := 3) (x := x3) hC (dX12_goDay_44) rfl rfl ?_
        refine g_iadd hC (dX12_goDay_45) ?_
        refine g_iaload (n := (zLen x1)) hC (dX12_goDay_46) q1 q4 ?_
        refine g_aload_n (i := 0) (x := 36) hC (dX12_goDay_47) rfl rfl ?_
        refine g_getI hC flX12_13 (dX12_goDay_48) rfl rfl ?_
        refine g_icmp_ge (tgt := 57) hC (dX12_goDay_51) (by decide) (fun c51 => ?_) (fun c51 => ?_)
        · have h := wpO_t c51 h
          refine g_aload_n (i := 1) (x := x1) hC (dX12_goDay_57) rfl rfl ?_
          refine g_iload_n (i := 3) (x := x3) hC (dX12_goDay_58) rfl rfl ?_
          refine g_iconst (v := 0) hC (dX12_goDay_59) kc_0 ?_
          refine g_aload_n (i := 1) (x := x1) hC (dX12_goDay_60) rfl rfl ?_
          refine g_bipush (v := 8) hC (dX12_goDay_61) kb_8 ?_
          refine g_iload_n (i := 3) (x := x3) hC (dX12_goDay_63) rfl rfl ?_
          refine g_iadd hC (dX12_goDay_64) ?_
          obtain ⟨q5, h⟩ := wpO_g h
          refine g_iaload (n := (zLen x1)) hC (dX12_goDay_65) q1 q5 ?_
          have h := wpO_b h
          refine g_callSv ([.ref x1, .int x3, .int 0, .int (M40.1 x1 (8 + x3).toNatClampNeg)]) hC wsX12_251 (dX12_goDay_66) rfl (by omega) (Nat.le_of_ble_eq_true rfl) (cX12_goes_ok (by omega) x1 x3 0 (M40.1 x1 (8 + x3).toNatClampNeg) M40 h) (fun M66 h => ?_)
          refine g_iload_n (i := 2) (x := x2) hC (dX12_goDay_69) rfl rfl ?_
          refine g_iconst (v := 1) hC (dX12_goDay_70) kc_1 ?_
          refine g_iload_n (i := 3) (x := x3) hC (dX12_goDay_71) rfl rfl ?_
          refine g_ishl hC (dX12_goDay_72) ?_
          refine g_ior hC (dX12_goDay_73) ?_
          refine g_nmi (fun x2_74 e_x2_74 => ?_)
          have h := wpO_n e_x2_74 h
          refine g_istore_n (i := 2) (lv2 := [(2, .int x2_74), (0, .ref 36), (1, .ref x1), (3, .int x3)]) hC (dX12_goDay_74) rfl (by decide) rfl ?_
          refine g_sub (lv' := [(0, .ref 36), (1, .ref x1), (2, .int x2_74), (3, .int x3)]) [1, 2, 0, 3] rfl ?_
          exact hJ3 _ _ (wpO_s h)
        · have h := wpO_f c51 h
          refine g_goto (tgt := 75) hC (dX12_goDay_54) (by decide) ?_
          exact hJ3 _ _ (wpO_s h)
      · have h := wpO_f c16 h
        refine g_goto (tgt := 75) hC (dX12_goDay_19) (by decide) ?_
        exact hJ3 _ _ (wpO_s h)
set_option maxHeartbeats 4000000 in
theorem cX12_goDay_ok {E : zE} {d : Nat} (hd : 1 ≤ d) (x1 : Nat) (M : zM) {K : (Int32 × zM) → Prop} (h : wpO (fX12_goDay x1 M) K) : CMi E d yX12_goDay cX12_goDay 4 (some .int) [.ref 36, .ref x1] M (fun r N => K (r, N)) := by
  refine CMi.of (by decide) (Nat.le_of_ble_eq_true rfl) (fun Γ hC hr => ?_)
  have hC : Cx E Γ RX12 cX12_goDay 4 d := hC
  show G E Γ 4 0 [(0, .ref 36), (1, .ref x1)] [] M
  unfold fX12_goDay at h
  refine g_iconst (v := 0) hC (dX12_goDay_0) kc_0 ?_
  refine g_istore_n (i := 2) (lv2 := [(2, .int 0), (0, .ref 36), (1, .ref x1)]) hC (dX12_goDay_1) rfl (by decide) rfl ?_
  refine g_iconst (v := 0) hC (dX12_goDay_2) kc_0 ?_
  refine g_istore_n (i := 3) (lv2 := [(3, .int 0), (2, .int 0), (0, .ref 36), (1, .ref x1)]) hC (dX12_goDay_3) rfl (by decide) rfl ?_
  refine g_sub (lv' := [(0, .ref 36), (1, .ref x1), (2, .int 0), (3, .int 0)]) [2, 3, 1, 0] rfl ?_
  refine wpO_bJ h (fun KL4 hKL4 h => ?_)
  refine lX12_goDay_4 (K1 := KL4) hC (by omega) x1 (fun x2_81 M_81 h => ?_) _ _ _ _ h
  have h := hKL4 _ h
  have h := wpO_p h
  refine g_aload_n (i := 1) (x := x1) hC (dX12_goDay_81) rfl rfl ?_
  refine g_bipush (v := 24) hC (dX12_goDay_82) kb_24 ?_
  refine g_dup2 hC (dX12_goDay_84) rfl rfl ?_
  obtain ⟨q7, h⟩ := wpO_g h
  obtain ⟨q8, h⟩ := wpO_g h
  refine g_iaload (n := (zLen x1)) hC (dX12_goDay_85) q7 q8 ?_
  refine g_iconst (v := 1) hC (dX12_goDay_86) kc_1 ?_
  refine g_iadd hC (dX12_goDay_87) ?_
  refine g_iastore (n := (zLen x1)) hC (dX12_goDay_88) q7 q8 ?_
  refine g_nmM (fun M88 e_M88 => ?_)
  have h := wpO_n e_M88 h
  refine g_iload_n (i := 2) (x := x2_81) hC (dX12_goDay_89) rfl rfl ?_
  refine g_ireturn hC hr (dX12_goDay_90) ?_
  exact wpO_s h
/-! LostByStateModel.goDays([II)I -/
theorem dX12_goDays_0 : decode cX12_goDays 0 = .ok (.iconst 0, 1) := by decide +kernel
theorem dX12_goDays_1 : decode cX12_goDays 1 = .ok (.istore_n 3, 1) := by decide +kernel
theorem dX12_goDays_2 : decode cX12_goDays 2 = .ok (.iconst 0, 1) := by decide +kernel
theorem dX12_goDays_3 : decode cX12_goDays 3 = .ok (.istore 4, 2) := by decide +kernel
theorem dX12_goDays_5 : decode cX12_goDays 5 = .ok (.iload 4, 2) := by decide +kernel
theorem dX12_goDays_7 : decode cX12_goDays 7 = .ok (.iload_n 2, 1) := by decide +kernel
theorem dX12_goDays_8 : decode cX12_goDays 8 = .ok (.if_icmp .ge 17, 3) := by decide +kernel
theorem dX12_goDays_11 : decode cX12_goDays 11 = .ok (.iload_n 3, 1) := by decide +kernel
theorem dX12_goDays_12 : decode cX12_goDays 12 = .ok (.aload_n 0, 1) := by decide +kernel
theorem dX12_goDays_13 : decode cX12_goDays 13 = .ok (.aload_n 1, 1) := by decide +kernel
theorem dX12_goDays_14 : decode cX12_goDays 14 = .ok (.invokevirtual 273, 3) := by decide +kernel
theorem dX12_goDays_17 : decode cX12_goDays 17 = .ok (.ior, 1) := by decide +kernel
theorem dX12_goDays_18 : decode cX12_goDays 18 = .ok (.istore_n 3, 1) := by decide +kernel
theorem dX12_goDays_19 : decode cX12_goDays 19 = .ok (.iinc 4 1, 3) := by decide +kernel
theorem dX12_goDays_22 : decode cX12_goDays 22 = .ok (.goto (-17), 3) := by decide +kernel
theorem dX12_goDays_25 : decode cX12_goDays 25 = .ok (.iload_n 3, 1) := by decide +kernel
theorem dX12_goDays_26 : decode cX12_goDays 26 = .ok (.ireturn, 1) := by decide +kernel
def fX12_goDays_L5 (x1 : Nat) (x2 : Int32) : Nat → Int32 → Int32 → zM → Option (Int32 × zM)
  | 0, _, _, _ => none
  | n + 1, x3, x4, M => if x2 ≤ x4 then (
    some (x3, M))
    else (
    (fX12_goDay x1 M).bind fun (q : Int32 × zM) => zp q fun r1 M14 =>
    zlet (x3 ||| r1) fun (x3_18 : Int32) =>
    fX12_goDays_L5 x1 x2 n x3_18 (x4 + 1) M14)
def fX12_goDays (x1 : Nat) (x2 : Int32) (M : zM) : Option (Int32 × zM) := (fX12_goDays_L5 x1 x2 4000 0 0 M).bind fun (q : Int32 × zM) => zp q fun x3_25 M_25 =>
  some (x3_25, M_25)
set_option maxHeartbeats 4000000 in
theorem lX12_goDays_5 {E : zE} {Γ : zT} {d : Nat} {K1 : (Int32 × zM) → Prop} (hC : Cx E Γ RX12 cX12_goDays 5 d) (hd : 2 ≤ d) (x1 : Nat) (x2 : Int32) (hx : ∀ (x3_25 : Int32) (M_25 : zM), K1 (x3_25, M_25) → G E Γ 5 25 [(3, .int x3_25)] [] M_25) :
    ∀ (n : Nat) (x3 : Int32) (x4 : Int32) (M : zM), wpO (fX12_goDays_L5 x1 x2 n x3 x4 M) K1 → G E Γ 5 5 [(0, .ref 36), (1, .ref x1), (2, .int x2), (3, .int x3), (4, .int x4)] [] M := by
  intro n
  induction n with
  | zero =>
    intro x3 x4 M h
    exact (wpO_0 h).elim
  | succ n ih =>
    intro x3 x4 M h
    rw [fX12_goDays_L5.eq_2] at h
    refine g_iload (i := 4) (x := x4) hC (dX12_goDays_5) rfl ?_
    refine g_iload_n (i := 2) (x := x2) hC (dX12_goDays_7) rfl rfl ?_
    refine g_icmp_ge (tgt := 25) hC (dX12_goDays_8) (by decide) (fun c8 => ?_) (fun c8 => ?_)
    · have h := wpO_t c8 h
      refine g_sub (lv' := [(3, .int x3)]) [3] rfl ?_
      exact hx _ _ (wpO_s h)
    · have h := wpO_f c8 h
      refine g_iload_n (i := 3) (x := x3) hC (dX12_goDays_11) rfl rfl ?_
      refine g_aload_n (i := 0) (x := 36) hC (dX12_goDays_12) rfl rfl ?_
      refine g_aload_n (i := 1) (x := x1) hC (dX12_goDays_13) rfl rfl ?_
      have h := wpO_b h
      refine g_callVi ([.ref x1]) hC wvX12_273 (dX12_goDays_14) rfl rfl (by omega) (Nat.le_of_ble_eq_true rfl) (cX12_goDay_ok (by omega) x1 M h) (fun r1 M14 h => ?_)
      have h := wpO_p h
      refine g_ior hC (dX12_goDays_17) ?_
      refine g_nmi (fun x3_18 e_x3_18 => ?_)
      have h := wpO_n e_x3_18 h
      refine g_istore_n (i := 3) (lv2 := [(3, .int x3_18), (0, .ref 36), (1, .ref x1), (2, .int x2), (4, .int x4)]) hC (dX12_goDays_18) rfl (by decide) rfl ?_
      refine g_iinc (x := x4) (v := (x4 + 1)) (lv2 := [(4, .int (x4 + 1)), (3, .int x3_18), (0, .ref 36), (1, .ref x1), (2, .int x2)]) hC (dX12_goDays_19) rfl rfl (by decide) rfl ?_
      refine g_goto (tgt := 5) hC (dX12_goDays_22) (by decide) ?_
      refine g_sub (lv' := [(0, .ref 36), (1, .ref x1), (2, .int x2), (3, .int x3_18), (4, .int (x4 + 1))]) [2, 3, 4, 1, 0] rfl ?_
      exact ih _ _ _ h
set_option maxHeartbeats 4000000 in
theorem cX12_goDays_ok {E : zE} {d : Nat} (hd : 2 ≤ d) (x1 : Nat) (x2 : Int32) (M : zM) {K : (Int32 × zM) → Prop} (h : wpO (fX12_goDays x1 x2 M) K) : CMi E d yX12_goDays cX12_goDays 5 (some .int) [.ref 36, .ref x1, .int x2] M (fun r N => K (r, N)) := by
  refine CMi.of (by decide) (Nat.le_of_ble_eq_true rfl) (fun Γ hC hr => ?_)
  have hC : Cx E Γ RX12 cX12_goDays 5 d := hC
  show G E Γ 5 0 [(0, .ref 36), (1, .ref x1), (2, .int x2)] [] M
  unfold fX12_goDays at h
  refine g_iconst (v := 0) hC (dX12_goDays_0) kc_0 ?_
  refine g_istore_n (i := 3) (lv2 := [(3, .int 0), (0, .ref 36), (1, .ref x1), (2, .int x2)]) hC (dX12_goDays_1) rfl (by decide) rfl ?_
  refine g_iconst (v := 0) hC (dX12_goDays_2) kc_0 ?_
  refine g_istore (i := 4) (lv2 := [(4, .int 0), (3, .int 0), (0, .ref 36), (1, .ref x1), (2, .int x2)]) hC (dX12_goDays_3) (by decide) rfl ?_
  refine g_sub (lv' := [(0, .ref 36), (1, .ref x1), (2, .int x2), (3, .int 0), (4, .int 0)]) [2, 3, 4, 1, 0] rfl ?_
  refine wpO_bJ h (fun KL5 hKL5 h => ?_)
  refine lX12_goDays_5 (K1 := KL5) hC (by omega) x1 x2 (fun x3_25 M_25 h => ?_) _ _ _ _ h
  have h := hKL5 _ h
  have h := wpO_p h
  refine g_iload_n (i := 3) (x := x3_25) hC (dX12_goDays_25) rfl rfl ?_
  refine g_ireturn hC hr (dX12_goDays_26) ?_
  exact wpO_s h
/-! LostByStateModel.days(I)I -/
theorem dX12_days_0 : decode cX12_days 0 = .ok (.aload_n 0, 1) := by decide +kernel
theorem dX12_days_1 : decode cX12_days 1 = .ok (.iconst 0, 1) := by decide +kernel
theorem dX12_days_2 : decode cX12_days 2 = .ok (.putfield 86, 3) := by decide +kernel
theorem dX12_days_5 : decode cX12_days 5 = .ok (.iload_n 1, 1) := by decide +kernel
theorem dX12_days_6 : decode cX12_days 6 = .ok (.iconst 0, 1) := by decide +kernel
theorem dX12_days_7 : decode cX12_days 7 = .ok (.bipush 99, 2) := by decide +kernel
theorem dX12_days_9 : decode cX12_days 9 = .ok (.invokestatic 95, 3) := by decide +kernel
theorem dX12_days_12 : decode cX12_days 12 = .ok (.ifCond .ne 5, 3) := by decide +kernel
theorem dX12_days_15 : decode cX12_days 15 = .ok (.iconst (-1), 1) := by decide +kernel
theorem dX12_days_16 : decode cX12_days 16 = .ok (.ireturn, 1) := by decide +kernel
theorem dX12_days_17 : decode cX12_days 17 = .ok (.iload_n 1, 1) := by decide +kernel
theorem dX12_days_18 : decode cX12_days 18 = .ok (.ifCond .le 11, 3) := by decide +kernel
theorem dX12_days_21 : decode cX12_days 21 = .ok (.aload_n 0, 1) := by decide +kernel
theorem dX12_days_22 : decode cX12_days 22 = .ok (.aload_n 0, 1) := by decide +kernel
theorem dX12_days_23 : decode cX12_days 23 = .ok (.getfield 9, 3) := by decide +kernel
theorem dX12_days_26 : decode cX12_days 26 = .ok (.invokevirtual 247, 3) := by decide +kernel
theorem dX12_days_29 : decode cX12_days 29 = .ok (.aload_n 0, 1) := by decide +kernel
theorem dX12_days_30 : decode cX12_days 30 = .ok (.aload_n 0, 1) := by decide +kernel
theorem dX12_days_31 : decode cX12_days 31 = .ok (.getfield 9, 3) := by decide +kernel
theorem dX12_days_34 : decode cX12_days 34 = .ok (.iload_n 1, 1) := by decide +kernel
theorem dX12_days_35 : decode cX12_days 35 = .ok (.invokevirtual 277, 3) := by decide +kernel
theorem dX12_days_38 : decode cX12_days 38 = .ok (.istore_n 2, 1) := by decide +kernel
theorem dX12_days_39 : decode cX12_days 39 = .ok (.aload_n 0, 1) := by decide +kernel
theorem dX12_days_40 : decode cX12_days 40 = .ok (.iconst 0, 1) := by decide +kernel
theorem dX12_days_41 : decode cX12_days 41 = .ok (.putfield 89, 3) := by decide +kernel
theorem dX12_days_44 : decode cX12_days 44 = .ok (.aload_n 0, 1) := by decide +kernel
theorem dX12_days_45 : decode cX12_days 45 = .ok (.iload_n 2, 1) := by decide +kernel
theorem dX12_days_46 : decode cX12_days 46 = .ok (.i2l, 1) := by decide +kernel
theorem dX12_days_47 : decode cX12_days 47 = .ok (.invokevirtual 280, 3) := by decide +kernel
theorem dX12_days_50 : decode cX12_days 50 = .ok (.aload_n 0, 1) := by decide +kernel
theorem dX12_days_51 : decode cX12_days 51 = .ok (.aload_n 0, 1) := by decide +kernel
theorem dX12_days_52 : decode cX12_days 52 = .ok (.aload_n 0, 1) := by decide +kernel
theorem dX12_days_53 : decode cX12_days 53 = .ok (.aload_n 0, 1) := by decide +kernel
theorem dX12_days_54 : decode cX12_days 54 = .ok (.getfield 9, 3) := by decide +kernel
theorem dX12_days_57 : decode cX12_days 57 = .ok (.bipush 6, 2) := by decide +kernel
theorem dX12_days_59 : decode cX12_days 59 = .ok (.invokevirtual 213, 3) := by decide +kernel
theorem dX12_days_62 : decode cX12_days 62 = .ok (.invokevirtual 284, 3) := by decide +kernel
theorem dX12_days_65 : decode cX12_days 65 = .ok (.i2l, 1) := by decide +kernel
theorem dX12_days_66 : decode cX12_days 66 = .ok (.invokevirtual 280, 3) := by decide +kernel
theorem dX12_days_69 : decode cX12_days 69 = .ok (.iload_n 2, 1) := by decide +kernel
theorem dX12_days_70 : decode cX12_days 70 = .ok (.invokestatic 196, 3) := by decide +kernel
theorem dX12_days_73 : decode cX12_days 73 = .ok (.ireturn, 1) := by decide +kernel
def fX12_days (x1 : Int32) (M : zM) : Option (Int32 × zM) := zlet (zSI M 36 12 0) fun (M2 : zM) =>
  if (fX12_in x1 0 99) = 0 then (
  some ((-1), M2))
  else (
  (if x1 ≤ 0 then (
  some M2)
  else (
  (fX12_remember 37 M2).bind fun (M26 : zM) =>
  some M26) : Option zM).bind fun (M_29 : zM) =>
  (fX12_goDays 37 x1 M_29).bind fun (q : Int32 × zM) => zp q fun r4 M35 =>
  zlet (zSI M35 36 11 0) fun (M41 : zM) =>
  (fX12_tell r4.toInt64 M41).bind fun (M47 : zM) =>
  (fX12_hadBy 37 6 M47).bind fun (r6 : Int32) =>
  (fX12_canWith r6 M47).bind fun (r7 : Int32) =>
  (fX12_tell r7.toInt64 M47).bind fun (M66 : zM) =>
  some (fJ6_bitCount_0f7a4 r4, M66))
set_option maxHeartbeats 4000000 in
theorem cX12_days_ok {E : zE} {d : Nat} (hd : 3 ≤ d) (x1 : Int32) (M : zM) {K : (Int32 × zM) → Prop} (h : wpO (fX12_days x1 M) K) : CMi E d yX12_days cX12_days 3 (some .int) [.ref 36, .int x1] M (fun r N => K (r, N)) := by
  refine CMi.of (by decide) (Nat.le_of_ble_eq_true rfl) (fun Γ hC hr => ?_)
  have hC : Cx E Γ RX12 cX12_days 3 d := hC
  show G E Γ 3 0 [(0, .ref 36), (1, .int x1)] [] M
  unfold fX12_days at h
  refine g_aload_n (i := 0) (x := 36) hC (dX12_days_0) rfl rfl ?_
  refine g_iconst (v := 0) hC (dX12_days_1) kc_0 ?_
  refine g_putI hC fpX12_86 (dX12_days_2) rfl rfl rfl rfl ?_
  refine g_nmM (fun M2 e_M2 => ?_)
  have h := wpO_n e_M2 h
  refine g_iload_n (i := 1) (x := x1) hC (dX12_days_5) rfl rfl ?_
  refine g_iconst (v := 0) hC (dX12_days_6) kc_0 ?_
  refine g_bipush (v := 99) hC (dX12_days_7) kb_99 ?_
  refine g_callSi ([.int x1, .int 0, .int 99]) hC wsX12_95 (dX12_days_9) rfl (by omega) (Nat.le_of_ble_eq_true rfl) (cX12_in_ok (by omega) x1 0 99 M2 (K := fun r => r = fX12_in x1 0 99) rfl) (fun r N q => ?_)
  obtain ⟨rfl, rfl⟩ := q
  refine g_if_ne (tgt := 17) hC (dX12_days_12) (by decide) (fun c12 => ?_) (fun c12 => ?_)
  · have h := wpO_f c12 h
    refine g_iload_n (i := 1) (x := x1) hC (dX12_days_17) rfl rfl ?_
    refine wpO_bJ h (fun KJ2 hKJ2 h => ?_)
    have hJ2 : ∀ (M_29 : zM), KJ2 M_29 → G E Γ 3 29 [(0, .ref 36), (1, .int x1)] [] M_29 := by
      intro M_29 h
      have h := hKJ2 _ h
      refine g_aload_n (i := 0) (x := 36) hC (dX12_days_29) rfl rfl ?_
      refine g_aload_n (i := 0) (x := 36) hC (dX12_days_30) rfl rfl ?_
      refine g_getR (r := 37) hC flX12_9 (dX12_days_31) rfl rfl rfl ?_
      refine g_iload_n (i := 1) (x := x1) hC (dX12_days_34) rfl rfl ?_
      have h := wpO_b h
      refine g_callVi ([.ref 37, .int x1]) hC wvX12_277 (dX12_days_35) rfl rfl (by omega) (Nat.le_of_ble_eq_true rfl) (cX12_goDays_ok (by omega) 37 x1 M_29 h) (fun r4 M35 h => ?_)
      have h := wpO_p h
      refine g_istore_n (i := 2) (lv2 := [(2, .int r4), (0, .ref 36), (1, .int x1)]) hC (dX12_days_38) rfl (by decide) rfl ?_
      refine g_aload_n (i := 0) (x := 36) hC (dX12_days_39) rfl rfl ?_
      refine g_iconst (v := 0) hC (dX12_days_40) kc_0 ?_
      refine g_putI hC fpX12_89 (dX12_days_41) rfl rfl rfl rfl ?_
      refine g_nmM (fun M41 e_M41 => ?_)
      have h := wpO_n e_M41 h
      refine g_aload_n (i := 0) (x := 36) hC (dX12_days_44) rfl rfl ?_
      refine g_iload_n (i := 2) (x := r4) hC (dX12_days_45) rfl rfl ?_
      refine g_i2l hC (dX12_days_46) ?_
      have h := wpO_b h
      refine g_callVv ([.long r4.toInt64]) hC wvX12_280 (dX12_days_47) rfl rfl (by omega) (Nat.le_of_ble_eq_true rfl) (cX12_tell_ok (by omega) r4.toInt64 M41 h) (fun M47 h => ?_)
      refine g_aload_n (i := 0) (x := 36) hC (dX12_days_50) rfl rfl ?_
      refine g_aload_n (i := 0) (x := 36) hC (dX12_days_51) rfl rfl ?_
      refine g_aload_n (i := 0) (x := 36) hC (dX12_days_52) rfl rfl ?_
      refine g_aload_n (i := 0) (x := 36) hC (dX12_days_53) rfl rfl ?_
      refine g_getR (r := 37) hC flX12_9 (dX12_days_54) rfl rfl rfl ?_
      refine g_bipush (v := 6) hC (dX12_days_57) kb_6 ?_
      have h := wpO_b h
      refine g_callVi ([.ref 37, .int 6]) hC wvX12_213 (dX12_days_59) rfl rfl (by omega) (Nat.le_of_ble_eq_true rfl) (cX12_hadBy_ok (by omega) 37 6 M47 h) (fun r6 N q => ?_)
      obtain ⟨rfl, h⟩ := q
      have h := wpO_b h
      refine g_callVi ([.int r6]) hC wvX12_284 (dX12_days_62) rfl rfl (by omega) (Nat.le_of_ble_eq_true rfl) (cX12_canWith_ok (by omega) r6 M47 h) (fun r7 N q => ?_)
      obtain ⟨rfl, h⟩ := q
      refine g_i2l hC (dX12_days_65) ?_
      have h := wpO_b h
      refine g_callVv ([.long r7.toInt64]) hC wvX12_280 (dX12_days_66) rfl rfl (by omega) (Nat.le_of_ble_eq_true rfl) (cX12_tell_ok (by omega) r7.toInt64 M47 h) (fun M66 h => ?_)
      refine g_iload_n (i := 2) (x := r4) hC (dX12_days_69) rfl rfl ?_
      refine g_callSi ([.int r4]) hC wsX12_196 (dX12_days_70) rfl (by omega) (Nat.le_of_ble_eq_true rfl) (cJ6_bitCount_0f7a4_ok (by omega) r4 M66 (K := fun r => r = fJ6_bitCount_0f7a4 r4) rfl) (fun r N q => ?_)
      obtain ⟨rfl, rfl⟩ := q
      refine g_ireturn hC hr (dX12_days_73) ?_
      exact wpO_s h
    refine g_if_le (tgt := 29) hC (dX12_days_18) (by decide) (fun c18 => ?_) (fun c18 => ?_)
    · have h := wpO_t c18 h
      exact hJ2 _ (wpO_s h)
    · have h := wpO_f c18 h
      refine g_aload_n (i := 0) (x := 36) hC (dX12_days_21) rfl rfl ?_
      refine g_aload_n (i := 0) (x := 36) hC (dX12_days_22) rfl rfl ?_
      refine g_getR (r := 37) hC flX12_9 (dX12_days_23) rfl rfl rfl ?_
      have h := wpO_b h
      refine g_callVv ([.ref 37]) hC wvX12_247 (dX12_days_26) rfl rfl (by omega) (Nat.le_of_ble_eq_true rfl) (cX12_remember_ok (by omega) 37 M2 h) (fun M26 h => ?_)
      exact hJ2 _ (wpO_s h)
  · have h := wpO_t c12 h
    refine g_iconst (v := (-1)) hC (dX12_days_15) kc_m1 ?_
    refine g_ireturn hC hr (dX12_days_16) ?_
    exact wpO_s h
/-! LostByStateModel.risingOn()I -/
theorem dX12_risingOn_0 : decode cX12_risingOn 0 = .ok (.iconst 0, 1) := by decide +kernel
theorem dX12_risingOn_1 : decode cX12_risingOn 1 = .ok (.istore_n 1, 1) := by decide +kernel
theorem dX12_risingOn_2 : decode cX12_risingOn 2 = .ok (.aload_n 0, 1) := by decide +kernel
theorem dX12_risingOn_3 : decode cX12_risingOn 3 = .ok (.invokevirtual 124, 3) := by decide +kernel
theorem dX12_risingOn_6 : decode cX12_risingOn 6 = .ok (.ifCond .eq 54, 3) := by decide +kernel
theorem dX12_risingOn_9 : decode cX12_risingOn 9 = .ok (.aload_n 0, 1) := by decide +kernel
theorem dX12_risingOn_10 : decode cX12_risingOn 10 = .ok (.invokevirtual 128, 3) := by decide +kernel
theorem dX12_risingOn_13 : decode cX12_risingOn 13 = .ok (.bipush 97, 2) := by decide +kernel
theorem dX12_risingOn_15 : decode cX12_risingOn 15 = .ok (.bipush 104, 2) := by decide +kernel
theorem dX12_risingOn_17 : decode cX12_risingOn 17 = .ok (.invokestatic 95, 3) := by decide +kernel
theorem dX12_risingOn_20 : decode cX12_risingOn 20 = .ok (.ifCond .eq 40, 3) := by decide +kernel
theorem dX12_risingOn_23 : decode cX12_risingOn 23 = .ok (.iload_n 1, 1) := by decide +kernel
theorem dX12_risingOn_24 : decode cX12_risingOn 24 = .ok (.aload_n 0, 1) := by decide +kernel
theorem dX12_risingOn_25 : decode cX12_risingOn 25 = .ok (.invokevirtual 128, 3) := by decide +kernel
theorem dX12_risingOn_28 : decode cX12_risingOn 28 = .ok (.bipush 97, 2) := by decide +kernel
theorem dX12_risingOn_30 : decode cX12_risingOn 30 = .ok (.isub, 1) := by decide +kernel
theorem dX12_risingOn_31 : decode cX12_risingOn 31 = .ok (.ishr, 1) := by decide +kernel
theorem dX12_risingOn_32 : decode cX12_risingOn 32 = .ok (.ifCond .ne 28, 3) := by decide +kernel
theorem dX12_risingOn_35 : decode cX12_risingOn 35 = .ok (.iload_n 1, 1) := by decide +kernel
theorem dX12_risingOn_36 : decode cX12_risingOn 36 = .ok (.iconst 1, 1) := by decide +kernel
theorem dX12_risingOn_37 : decode cX12_risingOn 37 = .ok (.aload_n 0, 1) := by decide +kernel
theorem dX12_risingOn_38 : decode cX12_risingOn 38 = .ok (.invokevirtual 128, 3) := by decide +kernel
theorem dX12_risingOn_41 : decode cX12_risingOn 41 = .ok (.bipush 97, 2) := by decide +kernel
theorem dX12_risingOn_43 : decode cX12_risingOn 43 = .ok (.isub, 1) := by decide +kernel
theorem dX12_risingOn_44 : decode cX12_risingOn 44 = .ok (.ishl, 1) := by decide +kernel
theorem dX12_risingOn_45 : decode cX12_risingOn 45 = .ok (.ior, 1) := by decide +kernel
theorem dX12_risingOn_46 : decode cX12_risingOn 46 = .ok (.istore_n 1, 1) := by decide +kernel
theorem dX12_risingOn_47 : decode cX12_risingOn 47 = .ok (.aload_n 0, 1) := by decide +kernel
theorem dX12_risingOn_48 : decode cX12_risingOn 48 = .ok (.dup, 1) := by decide +kernel
theorem dX12_risingOn_49 : decode cX12_risingOn 49 = .ok (.getfield 114, 3) := by decide +kernel
theorem dX12_risingOn_52 : decode cX12_risingOn 52 = .ok (.iconst 1, 1) := by decide +kernel
theorem dX12_risingOn_53 : decode cX12_risingOn 53 = .ok (.iadd, 1) := by decide +kernel
theorem dX12_risingOn_54 : decode cX12_risingOn 54 = .ok (.putfield 114, 3) := by decide +kernel
theorem dX12_risingOn_57 : decode cX12_risingOn 57 = .ok (.goto (-55), 3) := by decide +kernel
theorem dX12_risingOn_60 : decode cX12_risingOn 60 = .ok (.iload_n 1, 1) := by decide +kernel
theorem dX12_risingOn_61 : decode cX12_risingOn 61 = .ok (.ireturn, 1) := by decide +kernel
def fX12_risingOn_L2 : Nat → Int32 → zM → Option (Int32 × zM)
  | 0, _, _ => none
  | n + 1, x1, M => if (fX12_fine M) = 0 then (
    some (x1, M))
    else (
    (fX12_here M).bind fun (r2 : Int32) =>
    if (fX12_in r2 97 104) = 0 then (
    some (x1, M))
    else (
    (fX12_here M).bind fun (r4 : Int32) =>
    if (zshr x1 (r4 - 97)) = 0 then (
    (fX12_here M).bind fun (r5 : Int32) =>
    zlet (x1 ||| (zshl 1 (r5 - 97))) fun (x1_46 : Int32) =>
    zlet (zSI M 36 16 ((M.1 36 16) + 1)) fun (M54 : zM) =>
    fX12_risingOn_L2 n x1_46 M54)
    else (
    some (x1, M))))
def fX12_risingOn  (M : zM) : Option (Int32 × zM) := (fX12_risingOn_L2 4000 0 M).bind fun (q : Int32 × zM) => zp q fun x1_60 M_60 =>
  some (x1_60, M_60)
set_option maxHeartbeats 4000000 in
theorem lX12_risingOn_2 {E : zE} {Γ : zT} {d : Nat} {K1 : (Int32 × zM) → Prop} (hC : Cx E Γ RX12 cX12_risingOn 2 d) (hd : 1 ≤ d) (hx : ∀ (x1_60 : Int32) (M_60 : zM), K1 (x1_60, M_60) → G E Γ 2 60 [(1, .int x1_60)] [] M_60) :
    ∀ (n : Nat) (x1 : Int32) (M : zM), wpO (fX12_risingOn_L2 n x1 M) K1 → G E Γ 2 2 [(0, .ref 36), (1, .int x1)] [] M := by
  intro n
  induction n with
  | zero =>
    intro x1 M h
    exact (wpO_0 h).elim
  | succ n ih =>
    intro x1 M h
    rw [fX12_risingOn_L2.eq_2] at h
    refine g_aload_n (i := 0) (x := 36) hC (dX12_risingOn_2) rfl rfl ?_
    refine g_callVi ([]) hC wvX12_124 (dX12_risingOn_3) rfl rfl (by omega) (Nat.le_of_ble_eq_true rfl) (cX12_fine_ok (by omega) M (K := fun r => r = fX12_fine M) rfl) (fun r N q => ?_)
    obtain ⟨rfl, rfl⟩ := q
    refine g_if_eq (tgt := 60) hC (dX12_risingOn_6) (by decide) (fun c6 => ?_) (fun c6 => ?_)
    · have h := wpO_t c6 h
      refine g_sub (lv' := [(1, .int x1)]) [1] rfl ?_
      exact hx _ _ (wpO_s h)
    · have h := wpO_f c6 h
      refine g_aload_n (i := 0) (x := 36) hC (dX12_risingOn_9) rfl rfl ?_
      have h := wpO_b h
      refine g_callVi ([]) hC wvX12_128 (dX12_risingOn_10) rfl rfl (by omega) (Nat.le_of_ble_eq_true rfl) (cX12_here_ok (by omega) M h) (fun r2 N q => ?_)
      obtain ⟨rfl, h⟩ := q
      refine g_bipush (v := 97) hC (dX12_risingOn_13) kb_97 ?_
      refine g_bipush (v := 104) hC (dX12_risingOn_15) kb_104 ?_
      refine g_callSi ([.int r2, .int 97, .int 104]) hC wsX12_95 (dX12_risingOn_17) rfl (by omega) (Nat.le_of_ble_eq_true rfl) (cX12_in_ok (by omega) r2 97 104 M (K := fun r => r = fX12_in r2 97 104) rfl) (fun r N q => ?_)
      obtain ⟨rfl, rfl⟩ := q
      refine g_if_eq (tgt := 60) hC (dX12_risingOn_20) (by decide) (fun c20 => ?_) (fun c20 => ?_)
      · have h := wpO_t c20 h
        refine g_sub (lv' := [(1, .int x1)]) [1] rfl ?_
        exact hx _ _ (wpO_s h)
      · have h := wpO_f c20 h
        refine g_iload_n (i := 1) (x := x1) hC (dX12_risingOn_23) rfl rfl ?_
        refine g_aload_n (i := 0) (x := 36) hC (dX12_risingOn_24) rfl rfl ?_
        have h := wpO_b h
        refine g_callVi ([]) hC wvX12_128 (dX12_risingOn_25) rfl rfl (by omega) (Nat.le_of_ble_eq_true rfl) (cX12_here_ok (by omega) M h) (fun r4 N q => ?_)
        obtain ⟨rfl, h⟩ := q
        refine g_bipush (v := 97) hC (dX12_risingOn_28) kb_97 ?_
        refine g_isub hC (dX12_risingOn_30) ?_
        refine g_ishr hC (dX12_risingOn_31) ?_
        refine g_if_ne (tgt := 60) hC (dX12_risingOn_32) (by decide) (fun c32 => ?_) (fun c32 => ?_)
        · have h := wpO_f c32 h
          refine g_sub (lv' := [(1, .int x1)]) [1] rfl ?_
          exact hx _ _ (wpO_s h)
        · have h := wpO_t c32 h
          refine g_iload_n (i := 1) (x := x1) hC (dX12_risingOn_35) rfl rfl ?_
          refine g_iconst (v := 1) hC (dX12_risingOn_36) kc_1 ?_
          refine g_aload_n (i := 0) (x := 36) hC (dX12_risingOn_37) rfl rfl ?_
          have h := wpO_b h
          refine g_callVi ([]) hC wvX12_128 (dX12_risingOn_38) rfl rfl (by omega) (Nat.le_of_ble_eq_true rfl) (cX12_here_ok (by omega) M h) (fun r5 N q => ?_)
          obtain ⟨rfl, h⟩ := q
          refine g_bipush (v := 97) hC (dX12_risingOn_41) kb_97 ?_
          refine g_isub hC (dX12_risingOn_43) ?_
          refine g_ishl hC (dX12_risingOn_44) ?_
          refine g_ior hC (dX12_risingOn_45) ?_
          refine g_nmi (fun x1_46 e_x1_46 => ?_)
          have h := wpO_n e_x1_46 h
          refine g_istore_n (i := 1) (lv2 := [(1, .int x1_46), (0, .ref 36)]) hC (dX12_risingOn_46) rfl (by decide) rfl ?_
          refine g_aload_n (i := 0) (x := 36) hC (dX12_risingOn_47) rfl rfl ?_
          refine g_dup hC (dX12_risingOn_48) rfl ?_
          refine g_getI hC flX12_114 (dX12_risingOn_49) rfl rfl ?_
          refine g_iconst (v := 1) hC (dX12_risingOn_52) kc_1 ?_
          refine g_iadd hC (dX12_risingOn_53) ?_
          refine g_putI hC fpX12_114 (dX12_risingOn_54) rfl rfl rfl rfl ?_
          refine g_nmM (fun M54 e_M54 => ?_)
          have h := wpO_n e_M54 h
          refine g_goto (tgt := 2) hC (dX12_risingOn_57) (by decide) ?_
          refine g_sub (lv' := [(0, .ref 36), (1, .int x1_46)]) [1, 0] rfl ?_
          exact ih _ _ h
set_option maxHeartbeats 4000000 in
theorem cX12_risingOn_ok {E : zE} {d : Nat} (hd : 1 ≤ d)  (M : zM) {K : (Int32 × zM) → Prop} (h : wpO (fX12_risingOn  M) K) : CMi E d yX12_risingOn cX12_risingOn 2 (some .int) [.ref 36] M (fun r N => K (r, N)) := by
  refine CMi.of (by decide) (Nat.le_of_ble_eq_true rfl) (fun Γ hC hr => ?_)
  have hC : Cx E Γ RX12 cX12_risingOn 2 d := hC
  show G E Γ 2 0 [(0, .ref 36)] [] M
  unfold fX12_risingOn at h
  refine g_iconst (v := 0) hC (dX12_risingOn_0) kc_0 ?_
  refine g_istore_n (i := 1) (lv2 := [(1, .int 0), (0, .ref 36)]) hC (dX12_risingOn_1) rfl (by decide) rfl ?_
  refine g_sub (lv' := [(0, .ref 36), (1, .int 0)]) [1, 0] rfl ?_
  refine wpO_bJ h (fun KL2 hKL2 h => ?_)
  refine lX12_risingOn_2 (K1 := KL2) hC (by omega)  (fun x1_60 M_60 h => ?_) _ _ _ h
  have h := hKL2 _ h
  have h := wpO_p h
  refine g_iload_n (i := 1) (x := x1_60) hC (dX12_risingOn_60) rfl rfl ?_
  refine g_ireturn hC hr (dX12_risingOn_61) ?_
  exact wpO_s h
/-! LostByStateModel.readAct(I)V -/
theorem dX12_readAct_0 : decode cX12_readAct 0 = .ok (.aload_n 0, 1) := by decide +kernel
theorem dX12_readAct_1 : decode cX12_readAct 1 = .ok (.invokevirtual 128, 3) := by decide +kernel
theorem dX12_readAct_4 : decode cX12_readAct 4 = .ok (.istore_n 2, 1) := by decide +kernel
theorem dX12_readAct_5 : decode cX12_readAct 5 = .ok (.iload_n 2, 1) := by decide +kernel
theorem dX12_readAct_6 : decode cX12_readAct 6 = .ok (.bipush 108, 2) := by decide +kernel
theorem dX12_readAct_8 : decode cX12_readAct 8 = .ok (.if_icmp .eq 36, 3) := by decide +kernel
theorem dX12_readAct_11 : decode cX12_readAct 11 = .ok (.iload_n 2, 1) := by decide +kernel
theorem dX12_readAct_12 : decode cX12_readAct 12 = .ok (.bipush 102, 2) := by decide +kernel
theorem dX12_readAct_14 : decode cX12_readAct 14 = .ok (.if_icmp .eq 30, 3) := by decide +kernel
theorem dX12_readAct_17 : decode cX12_readAct 17 = .ok (.iload_n 2, 1) := by decide +kernel
theorem dX12_readAct_18 : decode cX12_readAct 18 = .ok (.bipush 99, 2) := by decide +kernel
theorem dX12_readAct_20 : decode cX12_readAct 20 = .ok (.if_icmp .eq 24, 3) := by decide +kernel
theorem dX12_readAct_23 : decode cX12_readAct 23 = .ok (.iload_n 2, 1) := by decide +kernel
theorem dX12_readAct_24 : decode cX12_readAct 24 = .ok (.bipush 103, 2) := by decide +kernel
theorem dX12_readAct_26 : decode cX12_readAct 26 = .ok (.if_icmp .eq 18, 3) := by decide +kernel
theorem dX12_readAct_29 : decode cX12_readAct 29 = .ok (.iload_n 2, 1) := by decide +kernel
theorem dX12_readAct_30 : decode cX12_readAct 30 = .ok (.bipush 100, 2) := by decide +kernel
theorem dX12_readAct_32 : decode cX12_readAct 32 = .ok (.if_icmp .eq 12, 3) := by decide +kernel
theorem dX12_readAct_35 : decode cX12_readAct 35 = .ok (.aload_n 0, 1) := by decide +kernel
theorem dX12_readAct_36 : decode cX12_readAct 36 = .ok (.aload_n 0, 1) := by decide +kernel
theorem dX12_readAct_37 : decode cX12_readAct 37 = .ok (.getfield 114, 3) := by decide +kernel
theorem dX12_readAct_40 : decode cX12_readAct 40 = .ok (.invokevirtual 136, 3) := by decide +kernel
theorem dX12_readAct_43 : decode cX12_readAct 43 = .ok (.return_, 1) := by decide +kernel
theorem dX12_readAct_44 : decode cX12_readAct 44 = .ok (.aload_n 0, 1) := by decide +kernel
theorem dX12_readAct_45 : decode cX12_readAct 45 = .ok (.dup, 1) := by decide +kernel
theorem dX12_readAct_46 : decode cX12_readAct 46 = .ok (.getfield 114, 3) := by decide +kernel
theorem dX12_readAct_49 : decode cX12_readAct 49 = .ok (.iconst 1, 1) := by decide +kernel
theorem dX12_readAct_50 : decode cX12_readAct 50 = .ok (.iadd, 1) := by decide +kernel
theorem dX12_readAct_51 : decode cX12_readAct 51 = .ok (.putfield 114, 3) := by decide +kernel
theorem dX12_readAct_54 : decode cX12_readAct 54 = .ok (.aload_n 0, 1) := by decide +kernel
theorem dX12_readAct_55 : decode cX12_readAct 55 = .ok (.getfield 58, 3) := by decide +kernel
theorem dX12_readAct_58 : decode cX12_readAct 58 = .ok (.iload_n 1, 1) := by decide +kernel
theorem dX12_readAct_59 : decode cX12_readAct 59 = .ok (.iload_n 2, 1) := by decide +kernel
theorem dX12_readAct_60 : decode cX12_readAct 60 = .ok (.iastore, 1) := by decide +kernel
theorem dX12_readAct_61 : decode cX12_readAct 61 = .ok (.aload_n 0, 1) := by decide +kernel
theorem dX12_readAct_62 : decode cX12_readAct 62 = .ok (.getfield 58, 3) := by decide +kernel
theorem dX12_readAct_65 : decode cX12_readAct 65 = .ok (.iload_n 1, 1) := by decide +kernel
theorem dX12_readAct_66 : decode cX12_readAct 66 = .ok (.iconst 1, 1) := by decide +kernel
theorem dX12_readAct_67 : decode cX12_readAct 67 = .ok (.iadd, 1) := by decide +kernel
theorem dX12_readAct_68 : decode cX12_readAct 68 = .ok (.aload_n 0, 1) := by decide +kernel
theorem dX12_readAct_69 : decode cX12_readAct 69 = .ok (.bipush 48, 2) := by decide +kernel
theorem dX12_readAct_71 : decode cX12_readAct 71 = .ok (.bipush 10, 2) := by decide +kernel
theorem dX12_readAct_73 : decode cX12_readAct 73 = .ok (.invokevirtual 140, 3) := by decide +kernel
theorem dX12_readAct_76 : decode cX12_readAct 76 = .ok (.iastore, 1) := by decide +kernel
theorem dX12_readAct_77 : decode cX12_readAct 77 = .ok (.iload_n 2, 1) := by decide +kernel
theorem dX12_readAct_78 : decode cX12_readAct 78 = .ok (.bipush 99, 2) := by decide +kernel
theorem dX12_readAct_80 : decode cX12_readAct 80 = .ok (.if_icmp .ne 18, 3) := by decide +kernel
theorem dX12_readAct_83 : decode cX12_readAct 83 = .ok (.aload_n 0, 1) := by decide +kernel
theorem dX12_readAct_84 : decode cX12_readAct 84 = .ok (.getfield 58, 3) := by decide +kernel
theorem dX12_readAct_87 : decode cX12_readAct 87 = .ok (.iload_n 1, 1) := by decide +kernel
theorem dX12_readAct_88 : decode cX12_readAct 88 = .ok (.iconst 2, 1) := by decide +kernel
theorem dX12_readAct_89 : decode cX12_readAct 89 = .ok (.iadd, 1) := by decide +kernel
theorem dX12_readAct_90 : decode cX12_readAct 90 = .ok (.aload_n 0, 1) := by decide +kernel
theorem dX12_readAct_91 : decode cX12_readAct 91 = .ok (.invokevirtual 293, 3) := by decide +kernel
theorem dX12_readAct_94 : decode cX12_readAct 94 = .ok (.iastore, 1) := by decide +kernel
theorem dX12_readAct_95 : decode cX12_readAct 95 = .ok (.goto 25, 3) := by decide +kernel
theorem dX12_readAct_98 : decode cX12_readAct 98 = .ok (.iload_n 2, 1) := by decide +kernel
theorem dX12_readAct_99 : decode cX12_readAct 99 = .ok (.bipush 100, 2) := by decide +kernel
theorem dX12_readAct_101 : decode cX12_readAct 101 = .ok (.if_icmp .eq 19, 3) := by decide +kernel
theorem dX12_readAct_104 : decode cX12_readAct 104 = .ok (.aload_n 0, 1) := by decide +kernel
theorem dX12_readAct_105 : decode cX12_readAct 105 = .ok (.getfield 58, 3) := by decide +kernel
theorem dX12_readAct_108 : decode cX12_readAct 108 = .ok (.iload_n 1, 1) := by decide +kernel
theorem dX12_readAct_109 : decode cX12_readAct 109 = .ok (.iconst 2, 1) := by decide +kernel
theorem dX12_readAct_110 : decode cX12_readAct 110 = .ok (.iadd, 1) := by decide +kernel
theorem dX12_readAct_111 : decode cX12_readAct 111 = .ok (.aload_n 0, 1) := by decide +kernel
theorem dX12_readAct_112 : decode cX12_readAct 112 = .ok (.bipush 48, 2) := by decide +kernel
theorem dX12_readAct_114 : decode cX12_readAct 114 = .ok (.bipush 10, 2) := by decide +kernel
theorem dX12_readAct_116 : decode cX12_readAct 116 = .ok (.invokevirtual 140, 3) := by decide +kernel
theorem dX12_readAct_119 : decode cX12_readAct 119 = .ok (.iastore, 1) := by decide +kernel
theorem dX12_readAct_120 : decode cX12_readAct 120 = .ok (.return_, 1) := by decide +kernel
def fX12_readAct (x1 : Int32) (M : zM) : Option zM := (fX12_here M).bind fun (r1 : Int32) =>
  zj (fun (_ : Unit) =>
  zlet (zSI M 36 16 ((M.1 36 16) + 1)) fun (M51 : zM) =>
  if zin x1 240 then (
  zlet (zSI M51 50 x1.toNatClampNeg r1) fun (M60 : zM) =>
  (fX12_oneOf 48 10 M60).bind fun (q : Int32 × zM) => zp q fun r5 M73 =>
  if zin (x1 + 1) 240 then (
  zlet (zSI M73 50 (x1 + 1).toNatClampNeg r5) fun (M76 : zM) =>
  if r1 = 99 then (
  (fX12_risingOn M76).bind fun (q : Int32 × zM) => zp q fun r9 M91 =>
  if zin (x1 + 2) 240 then (
  zlet (zSI M91 50 (x1 + 2).toNatClampNeg r9) fun (M94 : zM) =>
  some M94) else none)
  else (
  if r1 = 100 then (
  some M76)
  else (
  (fX12_oneOf 48 10 M76).bind fun (q : Int32 × zM) => zp q fun r7 M116 =>
  if zin (x1 + 2) 240 then (
  zlet (zSI M116 50 (x1 + 2).toNatClampNeg r7) fun (M119 : zM) =>
  some M119) else none))) else none) else none)
  fun J2 =>
  if r1 = 108 then (
  J2 ())
  else (
  if r1 = 102 then (
  J2 ())
  else (
  if r1 = 99 then (
  J2 ())
  else (
  if r1 = 103 then (
  J2 ())
  else (
  if r1 = 100 then (
  J2 ())
  else (
  zlet (fX12_fault (M.1 36 16) M) fun (M40 : zM) =>
  some M40)))))
set_option maxHeartbeats 4000000 in
theorem cX12_readAct_ok {E : zE} {d : Nat} (hd : 3 ≤ d) (x1 : Int32) (M : zM) {K : zM → Prop} (h : wpO (fX12_readAct x1 M) K) : CMv E d yX12_readAct cX12_readAct 3 (none) [.ref 36, .int x1] M K := by
  refine CMv.of (by decide) (Nat.le_of_ble_eq_true rfl) (fun Γ hC hr => ?_)
  have hC : Cx E Γ RX12 cX12_readAct 3 d := hC
  show G E Γ 3 0 [(0, .ref 36), (1, .int x1)] [] M
  unfold fX12_readAct at h
  refine g_aload_n (i := 0) (x := 36) hC (dX12_readAct_0) rfl rfl ?_
  have h := wpO_b h
  refine g_callVi ([]) hC wvX12_128 (dX12_readAct_1) rfl rfl (by omega) (Nat.le_of_ble_eq_true rfl) (cX12_here_ok (by omega) M h) (fun r1 N q => ?_)
  obtain ⟨rfl, h⟩ := q
  refine g_istore_n (i := 2) (lv2 := [(2, .int r1), (0, .ref 36), (1, .int x1)]) hC (dX12_readAct_4) rfl (by decide) rfl ?_
  refine g_iload_n (i := 2) (x := r1) hC (dX12_readAct_5) rfl rfl ?_
  refine g_bipush (v := 108) hC (dX12_readAct_6) kb_108 ?_
  refine wpO_j h (fun J2 hkJ2 h => ?_)
  have hJ2 : ∀ (_ : Unit), wpO (J2 ()) K → G E Γ 3 44 [(0, .ref 36), (1, .int x1), (2, .int r1)] [] M := by
    intro _ h
    have h := hkJ2 _ h
    refine g_aload_n (i := 0) (x := 36) hC (dX12_readAct_44) rfl rfl ?_
    refine g_dup hC (dX12_readAct_45) rfl ?_
    refine g_getI hC flX12_114 (dX12_readAct_46) rfl rfl ?_
    refine g_iconst (v := 1) hC (dX12_readAct_49) kc_1 ?_
    refine g_iadd hC (dX12_readAct_50) ?_
    refine g_putI hC fpX12_114 (dX12_readAct_51) rfl rfl rfl rfl ?_
    refine g_nmM (fun M51 e_M51 => ?_)
    have h := wpO_n e_M51 h
    refine g_aload_n (i := 0) (x := 36) hC (dX12_readAct_54) rfl rfl ?_
    refine g_getR (r := 50) hC flX12_58 (dX12_readAct_55) rfl rfl rfl ?_
    refine g_iload_n (i := 1) (x := x1) hC (dX12_readAct_58) rfl rfl ?_
    refine g_iload_n (i := 2) (x := r1) hC (dX12_readAct_59) rfl rfl ?_
    obtain ⟨q4, h⟩ := wpO_g h
    refine g_iastore (n := 240) hC (dX12_readAct_60) rfl q4 ?_
    refine g_nmM (fun M60 e_M60 => ?_)
    have h := wpO_n e_M60 h
    refine g_aload_n (i := 0) (x := 36) hC (dX12_readAct_61) rfl rfl ?_
    refine g_getR (r := 50) hC flX12_58 (dX12_readAct_62) rfl rfl rfl ?_
    refine g_iload_n (i := 1) (x := x1) hC (dX12_readAct_65) rfl rfl ?_
    refine g_iconst (v := 1) hC (dX12_readAct_66) kc_1 ?_
    refine g_iadd hC (dX12_readAct_67) ?_
    refine g_aload_n (i := 0) (x := 36) hC (dX12_readAct_68) rfl rfl ?_
    refine g_bipush (v := 48) hC (dX12_readAct_69) kb_48 ?_
    refine g_bipush (v := 10) hC (dX12_readAct_71) kb_10 ?_
    have h := wpO_b h
    refine g_callVi ([.int 48, .int 10]) hC wvX12_140 (dX12_readAct_73) rfl rfl (by omega) (Nat.le_of_ble_eq_true rfl) (cX12_oneOf_ok (by omega) 48 10 M60 h) (fun r5 M73 h => ?_)
    have h := wpO_p h
    obtain ⟨q6, h⟩ := wpO_g h
    refine g_iastore (n := 240) hC (dX12_readAct_76) rfl q6 ?_
    refine g_nmM (fun M76 e_M76 => ?_)
    have h := wpO_n e_M76 h
    refine g_iload_n (i := 2) (x := r1) hC (dX12_readAct_77) rfl rfl ?_
    refine g_bipush (v := 99) hC (dX12_readAct_78) kb_99 ?_
    refine g_icmp_ne (tgt := 98) hC (dX12_readAct_80) (by decide) (fun c80 => ?_) (fun c80 => ?_)
    · have h := wpO_f c80 h
      refine g_iload_n (i := 2) (x := r1) hC (dX12_readAct_98) rfl rfl ?_
      refine g_bipush (v := 100) hC (dX12_readAct_99) kb_100 ?_
      refine g_icmp_eq (tgt := 120) hC (dX12_readAct_101) (by decide) (fun c101 => ?_) (fun c101 => ?_)
      · have h := wpO_t c101 h
        refine g_vreturn hC hr (dX12_readAct_120) ?_
        exact wpO_s h
      · have h := wpO_f c101 h
        refine g_aload_n (i := 0) (x := 36) hC (dX12_readAct_104) rfl rfl ?_
        refine g_getR (r := 50) hC flX12_58 (dX12_readAct_105) rfl rfl rfl ?_
        refine g_iload_n (i := 1) (x := x1) hC (dX12_readAct_108) rfl rfl ?_
        refine g_iconst (v := 2) hC (dX12_readAct_109) kc_2 ?_
        refine g_iadd hC (dX12_readAct_110) ?_
        refine g_aload_n (i := 0) (x := 36) hC (dX12_readAct_111) rfl rfl ?_
        refine g_bipush (v := 48) hC (dX12_readAct_112) kb_48 ?_
        refine g_bipush (v := 10) hC (dX12_readAct_114) kb_10 ?_
        have h := wpO_b h
        refine g_callVi ([.int 48, .int 10]) hC wvX12_140 (dX12_readAct_116) rfl rfl (by omega) (Nat.le_of_ble_eq_true rfl) (cX12_oneOf_ok (by omega) 48 10 M76 h) (fun r7 M116 h => ?_)
        have h := wpO_p h
        obtain ⟨q8, h⟩ := wpO_g h
        refine g_iastore (n := 240) hC (dX12_readAct_119) rfl q8 ?_
        refine g_nmM (fun M119 e_M119 => ?_)
        have h := wpO_n e_M119 h
        refine g_vreturn hC hr (dX12_readAct_120) ?_
        exact wpO_s h
    · have h := wpO_t c80 h
      refine g_aload_n (i := 0) (x := 36) hC (dX12_readAct_83) rfl rfl ?_
      refine g_getR (r := 50) hC flX12_58 (dX12_readAct_84) rfl rfl rfl ?_
      refine g_iload_n (i := 1) (x := x1) hC (dX12_readAct_87) rfl rfl ?_
      refine g_iconst (v := 2) hC (dX12_readAct_88) kc_2 ?_
      refine g_iadd hC (dX12_readAct_89) ?_
      refine g_aload_n (i := 0) (x := 36) hC (dX12_readAct_90) rfl rfl ?_
      have h := wpO_b h
      refine g_callVi ([]) hC wvX12_293 (dX12_readAct_91) rfl rfl (by omega) (Nat.le_of_ble_eq_true rfl) (cX12_risingOn_ok (by omega) M76 h) (fun r9 M91 h => ?_)
      have h := wpO_p h
      obtain ⟨q10, h⟩ := wpO_g h
      refine g_iastore (n := 240) hC (dX12_readAct_94) rfl q10 ?_
      refine g_nmM (fun M94 e_M94 => ?_)
      have h := wpO_n e_M94 h
      refine g_goto (tgt := 120) hC (dX12_readAct_95) (by decide) ?_
      refine g_vreturn hC hr (dX12_readAct_120) ?_
      exact wpO_s h
  refine g_icmp_eq (tgt := 44) hC (dX12_readAct_8) (by decide) (fun c8 => ?_) (fun c8 => ?_)
  · have h := wpO_t c8 h
    refine g_sub (lv' := [(0, .ref 36), (1, .int x1), (2, .int r1)]) [1, 2, 0] rfl ?_
    exact hJ2 () h
  · have h := wpO_f c8 h
    refine g_iload_n (i := 2) (x := r1) hC (dX12_readAct_11) rfl rfl ?_
    refine g_bipush (v := 102) hC (dX12_readAct_12) kb_102 ?_
    refine g_icmp_eq (tgt := 44) hC (dX12_readAct_14) (by decide) (fun c14 => ?_) (fun c14 => ?_)
    · have h := wpO_t c14 h
      refine g_sub (lv' := [(0, .ref 36), (1, .int x1), (2, .int r1)]) [1, 2, 0] rfl ?_
      exact hJ2 () h
    · have h := wpO_f c14 h
      refine g_iload_n (i := 2) (x := r1) hC (dX12_readAct_17) rfl rfl ?_
      refine g_bipush (v := 99) hC (dX12_readAct_18) kb_99 ?_
      refine g_icmp_eq (tgt := 44) hC (dX12_readAct_20) (by decide) (fun c20 => ?_) (fun c20 => ?_)
      · have h := wpO_t c20 h
        refine g_sub (lv' := [(0, .ref 36), (1, .int x1), (2, .int r1)]) [1, 2, 0] rfl ?_
        exact hJ2 () h
      · have h := wpO_f c20 h
        refine g_iload_n (i := 2) (x := r1) hC (dX12_readAct_23) rfl rfl ?_
        refine g_bipush (v := 103) hC (dX12_readAct_24) kb_103 ?_
        refine g_icmp_eq (tgt := 44) hC (dX12_readAct_26) (by decide) (fun c26 => ?_) (fun c26 => ?_)
        · have h := wpO_t c26 h
          refine g_sub (lv' := [(0, .ref 36), (1, .int x1), (2, .int r1)]) [1, 2, 0] rfl ?_
          exact hJ2 () h
        · have h := wpO_f c26 h
          refine g_iload_n (i := 2) (x := r1) hC (dX12_readAct_29) rfl rfl ?_
          refine g_bipush (v := 100) hC (dX12_readAct_30) kb_100 ?_
          refine g_icmp_eq (tgt := 44) hC (dX12_readAct_32) (by decide) (fun c32 => ?_) (fun c32 => ?_)
          · have h := wpO_t c32 h
            refine g_sub (lv' := [(0, .ref 36), (1, .int x1), (2, .int r1)]) [1, 2, 0] rfl ?_
            exact hJ2 () h
          · have h := wpO_f c32 h
            refine g_aload_n (i := 0) (x := 36) hC (dX12_readAct_35) rfl rfl ?_
            refine g_aload_n (i := 0) (x := 36) hC (dX12_readAct_36) rfl rfl ?_
            refine g_getI hC flX12_114 (dX12_readAct_37) rfl rfl ?_
            refine g_callVv ([.int (M.1 36 16)]) hC wvX12_136 (dX12_readAct_40) rfl rfl (by omega) (Nat.le_of_ble_eq_true rfl) (cX12_fault_ok (by omega) (M.1 36 16) M (K := fun r => r = fX12_fault (M.1 36 16) M) rfl) (fun N q => ?_)
            subst q
            refine g_nmM (fun M40 e_M40 => ?_)
            have h := wpO_n e_M40 h
            refine g_vreturn hC hr (dX12_readAct_43) ?_
            exact wpO_s h
/-! LostByStateModel.act(III)Z -/
theorem dX12_act_0 : decode cX12_act 0 = .ok (.iload_n 1, 1) := by decide +kernel
theorem dX12_act_1 : decode cX12_act 1 = .ok (.tableswitch 157 99 108 #[109, 157, 157, 82, 134, 157, 157, 157, 157, 55], 55) := by decide +kernel
theorem dX12_act_56 : decode cX12_act 56 = .ok (.aload_n 0, 1) := by decide +kernel
theorem dX12_act_57 : decode cX12_act 57 = .ok (.aload_n 0, 1) := by decide +kernel
theorem dX12_act_58 : decode cX12_act 58 = .ok (.getfield 9, 3) := by decide +kernel
theorem dX12_act_61 : decode cX12_act 61 = .ok (.iload_n 2, 1) := by decide +kernel
theorem dX12_act_62 : decode cX12_act 62 = .ok (.iload_n 3, 1) := by decide +kernel
theorem dX12_act_63 : decode cX12_act 63 = .ok (.invokevirtual 243, 3) := by decide +kernel
theorem dX12_act_66 : decode cX12_act 66 = .ok (.ifCond .ge 5, 3) := by decide +kernel
theorem dX12_act_69 : decode cX12_act 69 = .ok (.iconst 0, 1) := by decide +kernel
theorem dX12_act_70 : decode cX12_act 70 = .ok (.ireturn, 1) := by decide +kernel
theorem dX12_act_71 : decode cX12_act 71 = .ok (.aload_n 0, 1) := by decide +kernel
theorem dX12_act_72 : decode cX12_act 72 = .ok (.getfield 9, 3) := by decide +kernel
theorem dX12_act_75 : decode cX12_act 75 = .ok (.iload_n 2, 1) := by decide +kernel
theorem dX12_act_76 : decode cX12_act 76 = .ok (.iconst 1, 1) := by decide +kernel
theorem dX12_act_77 : decode cX12_act 77 = .ok (.iload_n 3, 1) := by decide +kernel
theorem dX12_act_78 : decode cX12_act 78 = .ok (.invokestatic 251, 3) := by decide +kernel
theorem dX12_act_81 : decode cX12_act 81 = .ok (.iconst 1, 1) := by decide +kernel
theorem dX12_act_82 : decode cX12_act 82 = .ok (.ireturn, 1) := by decide +kernel
theorem dX12_act_83 : decode cX12_act 83 = .ok (.aload_n 0, 1) := by decide +kernel
theorem dX12_act_84 : decode cX12_act 84 = .ok (.aload_n 0, 1) := by decide +kernel
theorem dX12_act_85 : decode cX12_act 85 = .ok (.getfield 9, 3) := by decide +kernel
theorem dX12_act_88 : decode cX12_act 88 = .ok (.iload_n 2, 1) := by decide +kernel
theorem dX12_act_89 : decode cX12_act 89 = .ok (.iload_n 3, 1) := by decide +kernel
theorem dX12_act_90 : decode cX12_act 90 = .ok (.invokevirtual 255, 3) := by decide +kernel
theorem dX12_act_93 : decode cX12_act 93 = .ok (.ifCond .ge 5, 3) := by decide +kernel
theorem dX12_act_96 : decode cX12_act 96 = .ok (.iconst 0, 1) := by decide +kernel
theorem dX12_act_97 : decode cX12_act 97 = .ok (.ireturn, 1) := by decide +kernel
theorem dX12_act_98 : decode cX12_act 98 = .ok (.aload_n 0, 1) := by decide +kernel
theorem dX12_act_99 : decode cX12_act 99 = .ok (.getfield 9, 3) := by decide +kernel
theorem dX12_act_102 : decode cX12_act 102 = .ok (.iload_n 3, 1) := by decide +kernel
theorem dX12_act_103 : decode cX12_act 103 = .ok (.iconst 2, 1) := by decide +kernel
theorem dX12_act_104 : decode cX12_act 104 = .ok (.iload_n 2, 1) := by decide +kernel
theorem dX12_act_105 : decode cX12_act 105 = .ok (.invokestatic 251, 3) := by decide +kernel
theorem dX12_act_108 : decode cX12_act 108 = .ok (.iconst 1, 1) := by decide +kernel
theorem dX12_act_109 : decode cX12_act 109 = .ok (.ireturn, 1) := by decide +kernel
theorem dX12_act_110 : decode cX12_act 110 = .ok (.iload_n 2, 1) := by decide +kernel
theorem dX12_act_111 : decode cX12_act 111 = .ok (.bipush 6, 2) := by decide +kernel
theorem dX12_act_113 : decode cX12_act 113 = .ok (.if_icmp .gt 20, 3) := by decide +kernel
theorem dX12_act_116 : decode cX12_act 116 = .ok (.aload_n 0, 1) := by decide +kernel
theorem dX12_act_117 : decode cX12_act 117 = .ok (.aload_n 0, 1) := by decide +kernel
theorem dX12_act_118 : decode cX12_act 118 = .ok (.getfield 9, 3) := by decide +kernel
theorem dX12_act_121 : decode cX12_act 121 = .ok (.iload_n 2, 1) := by decide +kernel
theorem dX12_act_122 : decode cX12_act 122 = .ok (.iload_n 3, 1) := by decide +kernel
theorem dX12_act_123 : decode cX12_act 123 = .ok (.invokevirtual 267, 3) := by decide +kernel
theorem dX12_act_126 : decode cX12_act 126 = .ok (.ifCond .lt 7, 3) := by decide +kernel
theorem dX12_act_129 : decode cX12_act 129 = .ok (.iconst 1, 1) := by decide +kernel
theorem dX12_act_130 : decode cX12_act 130 = .ok (.goto 4, 3) := by decide +kernel
theorem dX12_act_133 : decode cX12_act 133 = .ok (.iconst 0, 1) := by decide +kernel
theorem dX12_act_134 : decode cX12_act 134 = .ok (.ireturn, 1) := by decide +kernel
theorem dX12_act_135 : decode cX12_act 135 = .ok (.aload_n 0, 1) := by decide +kernel
theorem dX12_act_136 : decode cX12_act 136 = .ok (.iload_n 2, 1) := by decide +kernel
theorem dX12_act_137 : decode cX12_act 137 = .ok (.iload_n 3, 1) := by decide +kernel
theorem dX12_act_138 : decode cX12_act 138 = .ok (.invokevirtual 270, 3) := by decide +kernel
theorem dX12_act_141 : decode cX12_act 141 = .ok (.ifCond .ge 5, 3) := by decide +kernel
theorem dX12_act_144 : decode cX12_act 144 = .ok (.iconst 0, 1) := by decide +kernel
theorem dX12_act_145 : decode cX12_act 145 = .ok (.ireturn, 1) := by decide +kernel
theorem dX12_act_146 : decode cX12_act 146 = .ok (.aload_n 0, 1) := by decide +kernel
theorem dX12_act_147 : decode cX12_act 147 = .ok (.getfield 9, 3) := by decide +kernel
theorem dX12_act_150 : decode cX12_act 150 = .ok (.bipush 8, 2) := by decide +kernel
theorem dX12_act_152 : decode cX12_act 152 = .ok (.iload_n 2, 1) := by decide +kernel
theorem dX12_act_153 : decode cX12_act 153 = .ok (.iadd, 1) := by decide +kernel
theorem dX12_act_154 : decode cX12_act 154 = .ok (.iload_n 3, 1) := by decide +kernel
theorem dX12_act_155 : decode cX12_act 155 = .ok (.iastore, 1) := by decide +kernel
theorem dX12_act_156 : decode cX12_act 156 = .ok (.iconst 1, 1) := by decide +kernel
theorem dX12_act_157 : decode cX12_act 157 = .ok (.ireturn, 1) := by decide +kernel
theorem dX12_act_158 : decode cX12_act 158 = .ok (.aload_n 0, 1) := by decide +kernel
theorem dX12_act_159 : decode cX12_act 159 = .ok (.aload_n 0, 1) := by decide +kernel
theorem dX12_act_160 : decode cX12_act 160 = .ok (.getfield 9, 3) := by decide +kernel
theorem dX12_act_163 : decode cX12_act 163 = .ok (.iload_n 2, 1) := by decide +kernel
theorem dX12_act_164 : decode cX12_act 164 = .ok (.invokevirtual 277, 3) := by decide +kernel
theorem dX12_act_167 : decode cX12_act 167 = .ok (.pop, 1) := by decide +kernel
theorem dX12_act_168 : decode cX12_act 168 = .ok (.iconst 1, 1) := by decide +kernel
theorem dX12_act_169 : decode cX12_act 169 = .ok (.ireturn, 1) := by decide +kernel
def fX12_act (x1 : Int32) (x2 : Int32) (x3 : Int32) (M : zM) : Option (Int32 × zM) := if x1 = 99 then (
  if 6 < x2 then (
  some (0, M))
  else (
  (fX12_goClaim 37 x2 x3 M).bind fun (q : Int32 × zM) => zp q fun r1 M123 =>
  if r1 < 0 then (
  some (0, M123))
  else (
  some (1, M123))))
  else (
  if x1 = 100 then (
  (fX12_goDays 37 x2 M).bind fun (q : Int32 × zM) => zp q fun r2 M164 =>
  some (1, M164))
  else (
  if x1 = 101 then (
  (fX12_goDays 37 x2 M).bind fun (q : Int32 × zM) => zp q fun r3 M164 =>
  some (1, M164))
  else (
  if x1 = 102 then (
  (fX12_refusesFind 37 x2 x3 M).bind fun (r4 : Int32) =>
  if 0 ≤ r4 then (
  (fX12_goes 37 x3 2 x2 M).bind fun (M105 : zM) =>
  some (1, M105))
  else (
  some (0, M)))
  else (
  if x1 = 103 then (
  (fX12_refusesGift x2 x3 M).bind fun (r6 : Int32) =>
  if 0 ≤ r6 then (
  if zin (8 + x2) 26 then (
  zlet (zSI M 37 (8 + x2).toNatClampNeg x3) fun (M155 : zM) =>
  some (1, M155)) else none)
  else (
  some (0, M)))
  else (
  if x1 = 104 then (
  (fX12_goDays 37 x2 M).bind fun (q : Int32 × zM) => zp q fun r8 M164 =>
  some (1, M164))
  else (
  if x1 = 105 then (
  (fX12_goDays 37 x2 M).bind fun (q : Int32 × zM) => zp q fun r9 M164 =>
  some (1, M164))
  else (
  if x1 = 106 then (
  (fX12_goDays 37 x2 M).bind fun (q : Int32 × zM) => zp q fun r10 M164 =>
  some (1, M164))
  else (
  if x1 = 107 then (
  (fX12_goDays 37 x2 M).bind fun (q : Int32 × zM) => zp q fun r11 M164 =>
  some (1, M164))
  else (
  if x1 = 108 then (
  (fX12_refusesLoss 37 x2 x3 M).bind fun (r12 : Int32) =>
  if 0 ≤ r12 then (
  (fX12_goes 37 x2 1 x3 M).bind fun (M78 : zM) =>
  some (1, M78))
  else (
  some (0, M)))
  else (
  (fX12_goDays 37 x2 M).bind fun (q : Int32 × zM) => zp q fun r14 M164 =>
  some (1, M164)))))))))))
set_option maxHeartbeats 4000000 in
theorem cX12_act_ok {E : zE} {d : Nat} (hd : 108 ≤ d) (x1 : Int32) (x2 : Int32) (x3 : Int32) (M : zM) {K : (Int32 × zM) → Prop} (h : wpO (fX12_act x1 x2 x3 M) K) : CMi E d yX12_act cX12_act 4 (some .boolean) [.ref 36, .int x1, .int x2, .int x3] M (fun r N => K (r, N)) := by
  refine CMi.of (by decide) (Nat.le_of_ble_eq_true rfl) (fun Γ hC hr => ?_)
  have hC : Cx E Γ RX12 cX12_act 4 d := hC
  show G E Γ 4 0 [(0, .ref 36), (1, .int x1), (2, .int x2), (3, .int x3)] [] M
  unfold fX12_act at h
  refine g_iload_n (i := 1) (x := x1) hC (dX12_act_0) rfl rfl ?_
  rcases Decidable.em (x1 = 99) with c1_99 | c1_99
  · have h := wpO_t c1_99 h
    refine g_tswIn (tgt := 110) (off := 109) hC (dX12_act_1) 99 c1_99 (by decide +kernel) (by decide +kernel) (by decide +kernel) (by decide +kernel) ?_
    refine g_iload_n (i := 2) (x := x2) hC (dX12_act_110) rfl rfl ?_
    refine g_bipush (v := 6) hC (dX12_act_111) kb_6 ?_
    refine g_icmp_gt (tgt := 133) hC (dX12_act_113) (by decide) (fun c113 => ?_) (fun c113 => ?_)
    · have h := wpO_t c113 h
      refine g_iconst (v := 0) hC (dX12_act_133) kc_0 ?_
      refine g_zreturn hC hr (dX12_act_134) (Or.inl rfl) ?_
      exact wpO_s h
    · have h := wpO_f c113 h
      refine g_aload_n (i := 0) (x := 36) hC (dX12_act_116) rfl rfl ?_
      refine g_aload_n (i := 0) (x := 36) hC (dX12_act_117) rfl rfl ?_
      refine g_getR (r := 37) hC flX12_9 (dX12_act_118) rfl rfl rfl ?_
      refine g_iload_n (i := 2) (x := x2) hC (dX12_act_121) rfl rfl ?_
      refine g_iload_n (i := 3) (x := x3) hC (dX12_act_122) rfl rfl ?_
      have h := wpO_b h
      refine g_callVi ([.ref 37, .int x2, .int x3]) hC wvX12_267 (dX12_act_123) rfl rfl (by omega) (Nat.le_of_ble_eq_true rfl) (cX12_goClaim_ok (by omega) 37 x2 x3 M h) (fun r1 M123 h => ?_)
      have h := wpO_p h
      refine g_if_lt (tgt := 133) hC (dX12_act_126) (by decide) (fun c126 => ?_) (fun c126 => ?_)
      · have h := wpO_t c126 h
        refine g_iconst (v := 0) hC (dX12_act_133) kc_0 ?_
        refine g_zreturn hC hr (dX12_act_134) (Or.inl rfl) ?_
        exact wpO_s h
      · have h := wpO_f c126 h
        refine g_iconst (v := 1) hC (dX12_act_129) kc_1 ?_
        refine g_goto (tgt := 134) hC (dX12_act_130) (by decide) ?_
        refine g_zreturn hC hr (dX12_act_134) (Or.inr rfl) ?_
        exact wpO_s h
  · have h := wpO_f c1_99 h
    rcases Decidable.em (x1 = 100) with c1_100 | c1_100
    · have h := wpO_t c1_100 h
      refine g_tswIn (tgt := 158) (off := 157) hC (dX12_act_1) 100 c1_100 (by decide +kernel) (by decide +kernel) (by decide +kernel) (by decide +kernel) ?_
      refine g_aload_n (i := 0) (x := 36) hC (dX12_act_158) rfl rfl ?_
      refine g_aload_n (i := 0) (x := 36) hC (dX12_act_159) rfl rfl ?_
      refine g_getR (r := 37) hC flX12_9 (dX12_act_160) rfl rfl rfl ?_
      refine g_iload_n (i := 2) (x := x2) hC (dX12_act_163) rfl rfl ?_
      have h := wpO_b h
      refine g_callVi ([.ref 37, .int x2]) hC wvX12_277 (dX12_act_164) rfl rfl (by omega) (Nat.le_of_ble_eq_true rfl) (cX12_goDays_ok (by omega) 37 x2 M h) (fun r2 M164 h => ?_)
      have h := wpO_p h
      refine g_pop hC (dX12_act_167) rfl ?_
      refine g_iconst (v := 1) hC (dX12_act_168) kc_1 ?_
      refine g_zreturn hC hr (dX12_act_169) (Or.inr rfl) ?_
      exact wpO_s h
    · have h := wpO_f c1_100 h
      rcases Decidable.em (x1 = 101) with c1_101 | c1_101
      · have h := wpO_t c1_101 h
        refine g_tswIn (tgt := 158) (off := 157) hC (dX12_act_1) 101 c1_101 (by decide +kernel) (by decide +kernel) (by decide +kernel) (by decide +kernel) ?_
        refine g_aload_n (i := 0) (x := 36) hC (dX12_act_158) rfl rfl ?_
        refine g_aload_n (i := 0) (x := 36) hC (dX12_act_159) rfl rfl ?_
        refine g_getR (r := 37) hC flX12_9 (dX12_act_160) rfl rfl rfl ?_
        refine g_iload_n (i := 2) (x := x2) hC (dX12_act_163) rfl rfl ?_
        have h := wpO_b h
        refine g_callVi ([.ref 37, .int x2]) hC wvX12_277 (dX12_act_164) rfl rfl (by omega) (Nat.le_of_ble_eq_true rfl) (cX12_goDays_ok (by omega) 37 x2 M h) (fun r3 M164 h => ?_)
        have h := wpO_p h
        refine g_pop hC (dX12_act_167) rfl ?_
        refine g_iconst (v := 1) hC (dX12_act_168) kc_1 ?_
        refine g_zreturn hC hr (dX12_act_169) (Or.inr rfl) ?_
        exact wpO_s h
      · have h := wpO_f c1_101 h
        rcases Decidable.em (x1 = 102) with c1_102 | c1_102
        · have h := wpO_t c1_102 h
          refine g_tswIn (tgt := 83) (off := 82) hC (dX12_act_1) 102 c1_102 (by decide +kernel) (by decide +kernel) (by decide +kernel) (by decide +kernel) ?_
          refine g_aload_n (i := 0) (x := 36) hC (dX12_act_83) rfl rfl ?_
          refine g_aload_n (i := 0) (x := 36) hC (dX12_act_84) rfl rfl ?_
          refine g_getR (r := 37) hC flX12_9 (dX12_act_85) rfl rfl rfl ?_
          refine g_iload_n (i := 2) (x := x2) hC (dX12_act_88) rfl rfl ?_
          refine g_iload_n (i := 3) (x := x3) hC (dX12_act_89) rfl rfl ?_
          have h := wpO_b h
          refine g_callVi ([.ref 37, .int x2, .int x3]) hC wvX12_255 (dX12_act_90) rfl rfl (by omega) (Nat.le_of_ble_eq_true rfl) (cX12_refusesFind_ok (by omega) 37 x2 x3 M h) (fun r4 N q => ?_)
          obtain ⟨rfl, h⟩ := q
          refine g_if_ge (tgt := 98) hC (dX12_act_93) (by decide) (fun c93 => ?_) (fun c93 => ?_)
          · have h := wpO_t c93 h
            refine g_aload_n (i := 0) (x := 36) hC (dX12_act_98) rfl rfl ?_
            refine g_getR (r := 37) hC flX12_9 (dX12_act_99) rfl rfl rfl ?_
            refine g_iload_n (i := 3) (x := x3) hC (dX12_act_102) rfl rfl ?_
            refine g_iconst (v := 2) hC (dX12_act_103) kc_2 ?_
            refine g_iload_n (i := 2) (x := x2) hC (dX12_act_104) rfl rfl ?_
            have h := wpO_b h
            refine g_callSv ([.ref 37, .int x3, .int 2, .int x2]) hC wsX12_251 (dX12_act_105) rfl (by omega) (Nat.le_of_ble_eq_true rfl) (cX12_goes_ok (by omega) 37 x3 2 x2 M h) (fun M105 h => ?_)
            refine g_iconst (v := 1) hC (dX12_act_108) kc_1 ?_
            refine g_zreturn hC hr (dX12_act_109) (Or.inr rfl) ?_
            exact wpO_s h
          · have h := wpO_f c93 h
            refine g_iconst (v := 0) hC (dX12_act_96) kc_0 ?_
            refine g_zreturn hC hr (dX12_act_97) (Or.inl rfl) ?_
            exact wpO_s h
        · have h := wpO_f c1_102 h
          rcases Decidable.em (x1 = 103) with c1_103 | c1_103
          · have h := wpO_t c1_103 h
            refine g_tswIn (tgt := 135) (off := 134) hC (dX12_act_1) 103 c1_103 (by decide +kernel) (by decide +kernel) (by decide +kernel) (by decide +kernel) ?_
            refine g_aload_n (i := 0) (x := 36) hC (dX12_act_135) rfl rfl ?_
            refine g_iload_n (i := 2) (x := x2) hC (dX12_act_136) rfl rfl ?_
            refine g_iload_n (i := 3) (x := x3) hC (dX12_act_137) rfl rfl ?_
            have h := wpO_b h
            refine g_callVi ([.int x2, .int x3]) hC wvX12_270 (dX12_act_138) rfl rfl (by omega) (Nat.le_of_ble_eq_true rfl) (cX12_refusesGift_ok (by omega) x2 x3 M h) (fun r6 N q => ?_)
            obtain ⟨rfl, h⟩ := q
            refine g_if_ge (tgt := 146) hC (dX12_act_141) (by decide) (fun c141 => ?_) (fun c141 => ?_)
            · have h := wpO_t c141 h
              refine g_aload_n (i := 0) (x := 36) hC (dX12_act_146) rfl rfl ?_
              refine g_getR (r := 37) hC flX12_9 (dX12_act_147) rfl rfl rfl ?_
              refine g_bipush (v := 8) hC (dX12_act_150) kb_8 ?_
              refine g_iload_n (i := 2) (x := x2) hC (dX12_act_152) rfl rfl ?_
              refine g_iadd hC (dX12_act_153) ?_
              refine g_iload_n (i := 3) (x := x3) hC (dX12_act_154) rfl rfl ?_
              obtain ⟨q7, h⟩ := wpO_g h
              refine g_iastore (n := 26) hC (dX12_act_155) rfl q7 ?_
              refine g_nmM (fun M155 e_M155 => ?_)
              have h := wpO_n e_M155 h
              refine g_iconst (v := 1) hC (dX12_act_156) kc_1 ?_
              refine g_zreturn hC hr (dX12_act_157) (Or.inr rfl) ?_
              exact wpO_s h
            · have h := wpO_f c141 h
              refine g_iconst (v := 0) hC (dX12_act_144) kc_0 ?_
              refine g_zreturn hC hr (dX12_act_145) (Or.inl rfl) ?_
              exact wpO_s h
          · have h := wpO_f c1_103 h
            rcases Decidable.em (x1 = 104) with c1_104 | c1_104
            · have h := wpO_t c1_104 h
              refine g_tswIn (tgt := 158) (off := 157) hC (dX12_act_1) 104 c1_104 (by decide +kernel) (by decide +kernel) (by decide +kernel) (by decide +kernel) ?_
              refine g_aload_n (i := 0) (x := 36) hC (dX12_act_158) rfl rfl ?_
              refine g_aload_n (i := 0) (x := 36) hC (dX12_act_159) rfl rfl ?_
              refine g_getR (r := 37) hC flX12_9 (dX12_act_160) rfl rfl rfl ?_
              refine g_iload_n (i := 2) (x := x2) hC (dX12_act_163) rfl rfl ?_
              have h := wpO_b h
              refine g_callVi ([.ref 37, .int x2]) hC wvX12_277 (dX12_act_164) rfl rfl (by omega) (Nat.le_of_ble_eq_true rfl) (cX12_goDays_ok (by omega) 37 x2 M h) (fun r8 M164 h => ?_)
              have h := wpO_p h
              refine g_pop hC (dX12_act_167) rfl ?_
              refine g_iconst (v := 1) hC (dX12_act_168) kc_1 ?_
              refine g_zreturn hC hr (dX12_act_169) (Or.inr rfl) ?_
              exact wpO_s h
            · have h := wpO_f c1_104 h
              rcases Decidable.em (x1 = 105) with c1_105 | c1_105
              · have h := wpO_t c1_105 h
                refine g_tswIn (tgt := 158) (off := 157) hC (dX12_act_1) 105 c1_105 (by decide +kernel) (by decide +kernel) (by decide +kernel) (by decide +kernel) ?_
                refine g_aload_n (i := 0) (x := 36) hC (dX12_act_158) rfl rfl ?_
                refine g_aload_n (i := 0) (x := 36) hC (dX12_act_159) rfl rfl ?_
                refine g_getR (r := 37) hC flX12_9 (dX12_act_160) rfl rfl rfl ?_
                refine g_iload_n (i := 2) (x := x2) hC (dX12_act_163) rfl rfl ?_
                have h := wpO_b h
                refine g_callVi ([.ref 37, .int x2]) hC wvX12_277 (dX12_act_164) rfl rfl (by omega) (Nat.le_of_ble_eq_true rfl) (cX12_goDays_ok (by omega) 37 x2 M h) (fun r9 M164 h => ?_)
                have h := wpO_p h
                refine g_pop hC (dX12_act_167) rfl ?_
                refine g_iconst (v := 1) hC (dX12_act_168) kc_1 ?_
                refine g_zreturn hC hr (dX12_act_169) (Or.inr rfl) ?_
                exact wpO_s h
              · have h := wpO_f c1_105 h
                rcases Decidable.em (x1 = 106) with c1_106 | c1_106
                · have h := wpO_t c1_106 h
                  refine g_tswIn (tgt := 158) (off := 157) hC (dX12_act_1) 106 c1_106 (by decide +kernel) (by decide +kernel) (by decide +kernel) (by decide +kernel) ?_
                  refine g_aload_n (i := 0) (x := 36) hC (dX12_act_158) rfl rfl ?_
                  refine g_aload_n (i := 0) (x := 36) hC (dX12_act_159) rfl rfl ?_
                  refine g_getR (r := 37) hC flX12_9 (dX12_act_160) rfl rfl rfl ?_
                  refine g_iload_n (i := 2) (x := x2) hC (dX12_act_163) rfl rfl ?_
                  have h := wpO_b h
                  refine g_callVi ([.ref 37, .int x2]) hC wvX12_277 (dX12_act_164) rfl rfl (by omega) (Nat.le_of_ble_eq_true rfl) (cX12_goDays_ok (by omega) 37 x2 M h) (fun r10 M164 h => ?_)
                  have h := wpO_p h
                  refine g_pop hC (dX12_act_167) rfl ?_
                  refine g_iconst (v := 1) hC (dX12_act_168) kc_1 ?_
                  refine g_zreturn hC hr (dX12_act_169) (Or.inr rfl) ?_
                  exact wpO_s h
                · have h := wpO_f c1_106 h
                  rcases Decidable.em (x1 = 107) with c1_107 | c1_107
                  · have h := wpO_t c1_107 h
                    refine g_tswIn (tgt := 158) (off := 157) hC (dX12_act_1) 107 c1_107 (by decide +kernel) (by decide +kernel) (by decide +kernel) (by decide +kernel) ?_
                    refine g_aload_n (i := 0) (x := 36) hC (dX12_act_158) rfl rfl ?_
                    refine g_aload_n (i := 0) (x := 36) hC (dX12_act_159) rfl rfl ?_
                    refine g_getR (r := 37) hC flX12_9 (dX12_act_160) rfl rfl rfl ?_
                    refine g_iload_n (i := 2) (x := x2) hC (dX12_act_163) rfl rfl ?_
                    have h := wpO_b h
                    refine g_callVi ([.ref 37, .int x2]) hC wvX12_277 (dX12_act_164) rfl rfl (by omega) (Nat.le_of_ble_eq_true rfl) (cX12_goDays_ok (by omega) 37 x2 M h) (fun r11 M164 h => ?_)
                    have h := wpO_p h
                    refine g_pop hC (dX12_act_167) rfl ?_
                    refine g_iconst (v := 1) hC (dX12_act_168) kc_1 ?_
                    refine g_zreturn hC hr (dX12_act_169) (Or.inr rfl) ?_
                    exact wpO_s h
                  · have h := wpO_f c1_107 h
                    rcases Decidable.em (x1 = 108) with c1_108 | c1_108
                    · have h := wpO_t c1_108 h
                      refine g_tswIn (tgt := 56) (off := 55) hC (dX12_act_1) 108 c1_108 (by decide +kernel) (by decide +kernel) (by decide +kernel) (by decide +kernel) ?_
                      refine g_aload_n (i := 0) (x := 36) hC (dX12_act_56) rfl rfl ?_
                      refine g_aload_n (i := 0) (x := 36) hC (dX12_act_57) rfl rfl ?_
                      refine g_getR (r := 37) hC flX12_9 (dX12_act_58) rfl rfl rfl ?_
                      refine g_iload_n (i := 2) (x := x2) hC (dX12_act_61) rfl rfl ?_
                      refine g_iload_n (i := 3) (x := x3) hC (dX12_act_62) rfl rfl ?_
                      have h := wpO_b h
                      refine g_callVi ([.ref 37, .int x2, .int x3]) hC wvX12_243 (dX12_act_63) rfl rfl (by omega) (Nat.le_of_ble_eq_true rfl) (cX12_refusesLoss_ok (by omega) 37 x2 x3 M h) (fun r12 N q => ?_)
                      obtain ⟨rfl, h⟩ := q
                      refine g_if_ge (tgt := 71) hC (dX12_act_66) (by decide) (fun c66 => ?_) (fun c66 => ?_)
                      · have h := wpO_t c66 h
                        refine g_aload_n (i := 0) (x := 36) hC (dX12_act_71) rfl rfl ?_
                        refine g_getR (r := 37) hC flX12_9 (dX12_act_72) rfl rfl rfl ?_
                        refine g_iload_n (i := 2) (x := x2) hC (dX12_act_75) rfl rfl ?_
                        refine g_iconst (v := 1) hC (dX12_act_76) kc_1 ?_
                        refine g_iload_n (i := 3) (x := x3) hC (dX12_act_77) rfl rfl ?_
                        have h := wpO_b h
                        refine g_callSv ([.ref 37, .int x2, .int 1, .int x3]) hC wsX12_251 (dX12_act_78) rfl (by omega) (Nat.le_of_ble_eq_true rfl) (cX12_goes_ok (by omega) 37 x2 1 x3 M h) (fun M78 h => ?_)
                        refine g_iconst (v := 1) hC (dX12_act_81) kc_1 ?_
                        refine g_zreturn hC hr (dX12_act_82) (Or.inr rfl) ?_
                        exact wpO_s h
                      · have h := wpO_f c66 h
                        refine g_iconst (v := 0) hC (dX12_act_69) kc_0 ?_
                        refine g_zreturn hC hr (dX12_act_70) (Or.inl rfl) ?_
                        exact wpO_s h
                    · have h := wpO_f c1_108 h
                      have zc1_99 : ¬ (x1).toInt = 99 := fun z => c1_99 (Int32.toInt_inj.mp (z.trans (by decide +kernel)))
                      have zc1_100 : ¬ (x1).toInt = 100 := fun z => c1_100 (Int32.toInt_inj.mp (z.trans (by decide +kernel)))
                      have zc1_101 : ¬ (x1).toInt = 101 := fun z => c1_101 (Int32.toInt_inj.mp (z.trans (by decide +kernel)))
                      have zc1_102 : ¬ (x1).toInt = 102 := fun z => c1_102 (Int32.toInt_inj.mp (z.trans (by decide +kernel)))
                      have zc1_103 : ¬ (x1).toInt = 103 := fun z => c1_103 (Int32.toInt_inj.mp (z.trans (by decide +kernel)))
                      have zc1_104 : ¬ (x1).toInt = 104 := fun z => c1_104 (Int32.toInt_inj.mp (z.trans (by decide +kernel)))
                      have zc1_105 : ¬ (x1).toInt = 105 := fun z => c1_105 (Int32.toInt_inj.mp (z.trans (by decide +kernel)))
                      have zc1_106 : ¬ (x1).toInt = 106 := fun z => c1_106 (Int32.toInt_inj.mp (z.trans (by decide +kernel)))
                      have zc1_107 : ¬ (x1).toInt = 107 := fun z => c1_107 (Int32.toInt_inj.mp (z.trans (by decide +kernel)))
                      have zc1_108 : ¬ (x1).toInt = 108 := fun z => c1_108 (Int32.toInt_inj.mp (z.trans (by decide +kernel)))
                      refine g_tswOut (tgt := 158) hC (dX12_act_1) (by omega) (by decide +kernel) ?_
                      refine g_aload_n (i := 0) (x := 36) hC (dX12_act_158) rfl rfl ?_
                      refine g_aload_n (i := 0) (x := 36) hC (dX12_act_159) rfl rfl ?_
                      refine g_getR (r := 37) hC flX12_9 (dX12_act_160) rfl rfl rfl ?_
                      refine g_iload_n (i := 2) (x := x2) hC (dX12_act_163) rfl rfl ?_
                      have h := wpO_b h
                      refine g_callVi ([.ref 37, .int x2]) hC wvX12_277 (dX12_act_164) rfl rfl (by omega) (Nat.le_of_ble_eq_true rfl) (cX12_goDays_ok (by omega) 37 x2 M h) (fun r14 M164 h => ?_)
                      have h := wpO_p h
                      refine g_pop hC (dX12_act_167) rfl ?_
                      refine g_iconst (v := 1) hC (dX12_act_168) kc_1 ?_
                      refine g_zreturn hC hr (dX12_act_169) (Or.inr rfl) ?_
                      exact wpO_s h
/-! LostByStateModel.year()I -/
theorem dX12_year_0 : decode cX12_year 0 = .ok (.aload_n 0, 1) := by decide +kernel
theorem dX12_year_1 : decode cX12_year 1 = .ok (.iconst 0, 1) := by decide +kernel
theorem dX12_year_2 : decode cX12_year 2 = .ok (.putfield 86, 3) := by decide +kernel
theorem dX12_year_5 : decode cX12_year 5 = .ok (.aload_n 0, 1) := by decide +kernel
theorem dX12_year_6 : decode cX12_year 6 = .ok (.bipush 60, 2) := by decide +kernel
theorem dX12_year_8 : decode cX12_year 8 = .ok (.invokevirtual 150, 3) := by decide +kernel
theorem dX12_year_11 : decode cX12_year 11 = .ok (.iconst 0, 1) := by decide +kernel
theorem dX12_year_12 : decode cX12_year 12 = .ok (.istore_n 1, 1) := by decide +kernel
theorem dX12_year_13 : decode cX12_year 13 = .ok (.aload_n 0, 1) := by decide +kernel
theorem dX12_year_14 : decode cX12_year 14 = .ok (.invokevirtual 124, 3) := by decide +kernel
theorem dX12_year_17 : decode cX12_year 17 = .ok (.ifCond .eq 27, 3) := by decide +kernel
theorem dX12_year_20 : decode cX12_year 20 = .ok (.aload_n 0, 1) := by decide +kernel
theorem dX12_year_21 : decode cX12_year 21 = .ok (.getfield 114, 3) := by decide +kernel
theorem dX12_year_24 : decode cX12_year 24 = .ok (.aload_n 0, 1) := by decide +kernel
theorem dX12_year_25 : decode cX12_year 25 = .ok (.getfield 108, 3) := by decide +kernel
theorem dX12_year_28 : decode cX12_year 28 = .ok (.if_icmp .ge 16, 3) := by decide +kernel
theorem dX12_year_31 : decode cX12_year 31 = .ok (.aload_n 0, 1) := by decide +kernel
theorem dX12_year_32 : decode cX12_year 32 = .ok (.iconst 3, 1) := by decide +kernel
theorem dX12_year_33 : decode cX12_year 33 = .ok (.iload_n 1, 1) := by decide +kernel
theorem dX12_year_34 : decode cX12_year 34 = .ok (.imul, 1) := by decide +kernel
theorem dX12_year_35 : decode cX12_year 35 = .ok (.invokevirtual 287, 3) := by decide +kernel
theorem dX12_year_38 : decode cX12_year 38 = .ok (.iinc 1 1, 3) := by decide +kernel
theorem dX12_year_41 : decode cX12_year 41 = .ok (.goto (-28), 3) := by decide +kernel
theorem dX12_year_44 : decode cX12_year 44 = .ok (.aload_n 0, 1) := by decide +kernel
theorem dX12_year_45 : decode cX12_year 45 = .ok (.invokevirtual 157, 3) := by decide +kernel
theorem dX12_year_48 : decode cX12_year 48 = .ok (.ifCond .ne 10, 3) := by decide +kernel
theorem dX12_year_51 : decode cX12_year 51 = .ok (.iconst (-1), 1) := by decide +kernel
theorem dX12_year_52 : decode cX12_year 52 = .ok (.aload_n 0, 1) := by decide +kernel
theorem dX12_year_53 : decode cX12_year 53 = .ok (.getfield 117, 3) := by decide +kernel
theorem dX12_year_56 : decode cX12_year 56 = .ok (.isub, 1) := by decide +kernel
theorem dX12_year_57 : decode cX12_year 57 = .ok (.ireturn, 1) := by decide +kernel
theorem dX12_year_58 : decode cX12_year 58 = .ok (.aload_n 0, 1) := by decide +kernel
theorem dX12_year_59 : decode cX12_year 59 = .ok (.getfield 9, 3) := by decide +kernel
theorem dX12_year_62 : decode cX12_year 62 = .ok (.aload_n 0, 1) := by decide +kernel
theorem dX12_year_63 : decode cX12_year 63 = .ok (.getfield 52, 3) := by decide +kernel
theorem dX12_year_66 : decode cX12_year 66 = .ok (.iconst 0, 1) := by decide +kernel
theorem dX12_year_67 : decode cX12_year 67 = .ok (.invokestatic 239, 3) := by decide +kernel
theorem dX12_year_70 : decode cX12_year 70 = .ok (.iconst 0, 1) := by decide +kernel
theorem dX12_year_71 : decode cX12_year 71 = .ok (.istore_n 2, 1) := by decide +kernel
theorem dX12_year_72 : decode cX12_year 72 = .ok (.iload_n 2, 1) := by decide +kernel
theorem dX12_year_73 : decode cX12_year 73 = .ok (.iload_n 1, 1) := by decide +kernel
theorem dX12_year_74 : decode cX12_year 74 = .ok (.if_icmp .ge 44, 3) := by decide +kernel
theorem dX12_year_77 : decode cX12_year 77 = .ok (.aload_n 0, 1) := by decide +kernel
theorem dX12_year_78 : decode cX12_year 78 = .ok (.aload_n 0, 1) := by decide +kernel
theorem dX12_year_79 : decode cX12_year 79 = .ok (.getfield 58, 3) := by decide +kernel
theorem dX12_year_82 : decode cX12_year 82 = .ok (.iconst 3, 1) := by decide +kernel
theorem dX12_year_83 : decode cX12_year 83 = .ok (.iload_n 2, 1) := by decide +kernel
theorem dX12_year_84 : decode cX12_year 84 = .ok (.imul, 1) := by decide +kernel
theorem dX12_year_85 : decode cX12_year 85 = .ok (.iaload, 1) := by decide +kernel
theorem dX12_year_86 : decode cX12_year 86 = .ok (.aload_n 0, 1) := by decide +kernel
theorem dX12_year_87 : decode cX12_year 87 = .ok (.getfield 58, 3) := by decide +kernel
theorem dX12_year_90 : decode cX12_year 90 = .ok (.iconst 3, 1) := by decide +kernel
theorem dX12_year_91 : decode cX12_year 91 = .ok (.iload_n 2, 1) := by decide +kernel
theorem dX12_year_92 : decode cX12_year 92 = .ok (.imul, 1) := by decide +kernel
theorem dX12_year_93 : decode cX12_year 93 = .ok (.iconst 1, 1) := by decide +kernel
theorem dX12_year_94 : decode cX12_year 94 = .ok (.iadd, 1) := by decide +kernel
theorem dX12_year_95 : decode cX12_year 95 = .ok (.iaload, 1) := by decide +kernel
theorem dX12_year_96 : decode cX12_year 96 = .ok (.aload_n 0, 1) := by decide +kernel
theorem dX12_year_97 : decode cX12_year 97 = .ok (.getfield 58, 3) := by decide +kernel
theorem dX12_year_100 : decode cX12_year 100 = .ok (.iconst 3, 1) := by decide +kernel
theorem dX12_year_101 : decode cX12_year 101 = .ok (.iload_n 2, 1) := by decide +kernel
theorem dX12_year_102 : decode cX12_year 102 = .ok (.imul, 1) := by decide +kernel
theorem dX12_year_103 : decode cX12_year 103 = .ok (.iconst 2, 1) := by decide +kernel
theorem dX12_year_104 : decode cX12_year 104 = .ok (.iadd, 1) := by decide +kernel
theorem dX12_year_105 : decode cX12_year 105 = .ok (.iaload, 1) := by decide +kernel
theorem dX12_year_106 : decode cX12_year 106 = .ok (.invokevirtual 290, 3) := by decide +kernel
theorem dX12_year_109 : decode cX12_year 109 = .ok (.ifCond .eq 9, 3) := by decide +kernel
theorem dX12_year_112 : decode cX12_year 112 = .ok (.iinc 2 1, 3) := by decide +kernel
theorem dX12_year_115 : decode cX12_year 115 = .ok (.goto (-43), 3) := by decide +kernel
theorem dX12_year_118 : decode cX12_year 118 = .ok (.iload_n 2, 1) := by decide +kernel
theorem dX12_year_119 : decode cX12_year 119 = .ok (.ifCond .le 11, 3) := by decide +kernel
theorem dX12_year_122 : decode cX12_year 122 = .ok (.aload_n 0, 1) := by decide +kernel
theorem dX12_year_123 : decode cX12_year 123 = .ok (.aload_n 0, 1) := by decide +kernel
theorem dX12_year_124 : decode cX12_year 124 = .ok (.getfield 52, 3) := by decide +kernel
theorem dX12_year_127 : decode cX12_year 127 = .ok (.invokevirtual 247, 3) := by decide +kernel
theorem dX12_year_130 : decode cX12_year 130 = .ok (.aload_n 0, 1) := by decide +kernel
theorem dX12_year_131 : decode cX12_year 131 = .ok (.iconst 0, 1) := by decide +kernel
theorem dX12_year_132 : decode cX12_year 132 = .ok (.putfield 89, 3) := by decide +kernel
theorem dX12_year_135 : decode cX12_year 135 = .ok (.aload_n 0, 1) := by decide +kernel
theorem dX12_year_136 : decode cX12_year 136 = .ok (.iload_n 2, 1) := by decide +kernel
theorem dX12_year_137 : decode cX12_year 137 = .ok (.iload_n 1, 1) := by decide +kernel
theorem dX12_year_138 : decode cX12_year 138 = .ok (.if_icmp .ge 7, 3) := by decide +kernel
theorem dX12_year_141 : decode cX12_year 141 = .ok (.lconst 1, 1) := by decide +kernel
theorem dX12_year_142 : decode cX12_year 142 = .ok (.goto 4, 3) := by decide +kernel
theorem dX12_year_145 : decode cX12_year 145 = .ok (.lconst 0, 1) := by decide +kernel
theorem dX12_year_146 : decode cX12_year 146 = .ok (.invokevirtual 280, 3) := by decide +kernel
theorem dX12_year_149 : decode cX12_year 149 = .ok (.aload_n 0, 1) := by decide +kernel
theorem dX12_year_150 : decode cX12_year 150 = .ok (.aload_n 0, 1) := by decide +kernel
theorem dX12_year_151 : decode cX12_year 151 = .ok (.aload_n 0, 1) := by decide +kernel
theorem dX12_year_152 : decode cX12_year 152 = .ok (.aload_n 0, 1) := by decide +kernel
theorem dX12_year_153 : decode cX12_year 153 = .ok (.getfield 9, 3) := by decide +kernel
theorem dX12_year_156 : decode cX12_year 156 = .ok (.bipush 6, 2) := by decide +kernel
theorem dX12_year_158 : decode cX12_year 158 = .ok (.invokevirtual 213, 3) := by decide +kernel
theorem dX12_year_161 : decode cX12_year 161 = .ok (.invokevirtual 284, 3) := by decide +kernel
theorem dX12_year_164 : decode cX12_year 164 = .ok (.i2l, 1) := by decide +kernel
theorem dX12_year_165 : decode cX12_year 165 = .ok (.invokevirtual 280, 3) := by decide +kernel
theorem dX12_year_168 : decode cX12_year 168 = .ok (.iload_n 2, 1) := by decide +kernel
theorem dX12_year_169 : decode cX12_year 169 = .ok (.ireturn, 1) := by decide +kernel
def fX12_year_L13 : Nat → Int32 → zM → Option (Int32 × zM)
  | 0, _, _ => none
  | n + 1, x1, M => if (fX12_fine M) = 0 then (
    some (x1, M))
    else (
    if (M.1 36 14) ≤ (M.1 36 16) then (
    some (x1, M))
    else (
    (fX12_readAct (3 * x1) M).bind fun (M35 : zM) =>
    fX12_year_L13 n (x1 + 1) M35))
def fX12_year_L72 (x1 : Int32) : Nat → Int32 → zM → Option (Int32 × zM)
  | 0, _, _ => none
  | n + 1, x2, M => if x1 ≤ x2 then (
    some (x2, M))
    else (
    if zin (3 * x2) 240 then (
    if zin ((3 * x2) + 1) 240 then (
    if zin ((3 * x2) + 2) 240 then (
    (fX12_act (M.1 50 (3 * x2).toNatClampNeg) (M.1 50 ((3 * x2) + 1).toNatClampNeg) (M.1 50 ((3 * x2) + 2).toNatClampNeg) M).bind fun (q : Int32 × zM) => zp q fun r9 M106 =>
    if r9 = 0 then (
    some (x2, M106))
    else (
    fX12_year_L72 x1 n (x2 + 1) M106)) else none) else none) else none)
def fX12_year  (M : zM) : Option (Int32 × zM) := zlet (zSI M 36 12 0) fun (M2 : zM) =>
  zlet (fX12_beginText 60 M2) fun (M8 : zM) =>
  (fX12_year_L13 4000 0 M8).bind fun (q : Int32 × zM) => zp q fun x1_44 M_44 =>
  zlet ((fX12_wasRight M_44).2) fun (M45 : zM) =>
  if ((fX12_wasRight M_44).1) = 0 then (
  some ((-1) - (M45.1 36 17), M45))
  else (
  (fX12_lay 37 48 0 M45).bind fun (M67 : zM) =>
  (fX12_year_L72 x1_44 4000 0 M67).bind fun (q : Int32 × zM) => zp q fun x2_118 M_118 =>
  (if x2_118 ≤ 0 then (
  some M_118)
  else (
  (fX12_remember 48 M_118).bind fun (M127 : zM) =>
  some M127) : Option zM).bind fun (M_130 : zM) =>
  zlet (zSI M_130 36 11 0) fun (M132 : zM) =>
  zlet (if x1_44 ≤ x2_118 then (
  0)
  else (
  1)) fun (s0_146 : Int64) =>
  (fX12_tell s0_146 M132).bind fun (M146 : zM) =>
  (fX12_hadBy 37 6 M146).bind fun (r14 : Int32) =>
  (fX12_canWith r14 M146).bind fun (r15 : Int32) =>
  (fX12_tell r15.toInt64 M146).bind fun (M165 : zM) =>
  some (x2_118, M165))
set_option maxHeartbeats 4000000 in
theorem lX12_year_13 {E : zE} {Γ : zT} {d : Nat} {K1 : (Int32 × zM) → Prop} (hC : Cx E Γ RX12 cX12_year 3 d) (hd : 109 ≤ d) (hx : ∀ (x1_44 : Int32) (M_44 : zM), K1 (x1_44, M_44) → G E Γ 3 44 [(0, .ref 36), (1, .int x1_44)] [] M_44) :
    ∀ (n : Nat) (x1 : Int32) (M : zM), wpO (fX12_year_L13 n x1 M) K1 → G E Γ 3 13 [(0, .ref 36), (1, .int x1)] [] M := by
  intro n
  induction n with
  | zero =>
    intro x1 M h
    exact (wpO_0 h).elim
  | succ n ih =>
    intro x1 M h
    rw [fX12_year_L13.eq_2] at h
    refine g_aload_n (i := 0) (x := 36) hC (dX12_year_13) rfl rfl ?_
    refine g_callVi ([]) hC wvX12_124 (dX12_year_14) rfl rfl (by omega) (Nat.le_of_ble_eq_true rfl) (cX12_fine_ok (by omega) M (K := fun r => r = fX12_fine M) rfl) (fun r N q => ?_)
    obtain ⟨rfl, rfl⟩ := q
    refine g_if_eq (tgt := 44) hC (dX12_year_17) (by decide) (fun c17 => ?_) (fun c17 => ?_)
    · have h := wpO_t c17 h
      exact hx _ _ (wpO_s h)
    · have h := wpO_f c17 h
      refine g_aload_n (i := 0) (x := 36) hC (dX12_year_20) rfl rfl ?_
      refine g_getI hC flX12_114 (dX12_year_21) rfl rfl ?_
      refine g_aload_n (i := 0) (x := 36) hC (dX12_year_24) rfl rfl ?_
      refine g_getI hC flX12_108 (dX12_year_25) rfl rfl ?_
      refine g_icmp_ge (tgt := 44) hC (dX12_year_28) (by decide) (fun c28 => ?_) (fun c28 => ?_)
      · have h := wpO_t c28 h
        exact hx _ _ (wpO_s h)
      · have h := wpO_f c28 h
        refine g_aload_n (i := 0) (x := 36) hC (dX12_year_31) rfl rfl ?_
        refine g_iconst (v := 3) hC (dX12_year_32) kc_3 ?_
        refine g_iload_n (i := 1) (x := x1) hC (dX12_year_33) rfl rfl ?_
        refine g_imul hC (dX12_year_34) ?_
        have h := wpO_b h
        refine g_callVv ([.int (3 * x1)]) hC wvX12_287 (dX12_year_35) rfl rfl (by omega) (Nat.le_of_ble_eq_true rfl) (cX12_readAct_ok (by omega) (3 * x1) M h) (fun M35 h => ?_)
        refine g_iinc (x := x1) (v := (x1 + 1)) (lv2 := [(1, .int (x1 + 1)), (0, .ref 36)]) hC (dX12_year_38) rfl rfl (by decide) rfl ?_
        refine g_goto (tgt := 13) hC (dX12_year_41) (by decide) ?_
        refine g_sub (lv' := [(0, .ref 36), (1, .int (x1 + 1))]) [1, 0] rfl ?_
        exact ih _ _ h
set_option maxHeartbeats 4000000 in
theorem lX12_year_72 {E : zE} {Γ : zT} {d : Nat} {K1 : (Int32 × zM) → Prop} (hC : Cx E Γ RX12 cX12_year 3 d) (hd : 109 ≤ d) (x1 : Int32) (hx : ∀ (x2_118 : Int32) (M_118 : zM), K1 (x2_118, M_118) → G E Γ 3 118 [(0, .ref 36), (1, .int x1), (2, .int x2_118)] [] M_118) :
    ∀ (n : Nat) (x2 : Int32) (M : zM), wpO (fX12_year_L72 x1 n x2 M) K1 → G E Γ 3 72 [(0, .ref 36), (1, .int x1), (2, .int x2)] [] M := by
  intro n
  induction n with
  | zero =>
    intro x2 M h
    exact (wpO_0 h).elim
  | succ n ih =>
    intro x2 M h
    rw [fX12_year_L72.eq_2] at h
    refine g_iload_n (i := 2) (x := x2) hC (dX12_year_72) rfl rfl ?_
    refine g_iload_n (i := 1) (x := x1) hC (dX12_year_73) rfl rfl ?_
    refine g_icmp_ge (tgt := 118) hC (dX12_year_74) (by decide) (fun c74 => ?_) (fun c74 => ?_)
    · have h := wpO_t c74 h
      exact hx _ _ (wpO_s h)
    · have h := wpO_f c74 h
      refine g_aload_n (i := 0) (x := 36) hC (dX12_year_77) rfl rfl ?_
      refine g_aload_n (i := 0) (x := 36) hC (dX12_year_78) rfl rfl ?_
      refine g_getR (r := 50) hC flX12_58 (dX12_year_79) rfl rfl rfl ?_
      refine g_iconst (v := 3) hC (dX12_year_82) kc_3 ?_
      refine g_iload_n (i := 2) (x := x2) hC (dX12_year_83) rfl rfl ?_
      refine g_imul hC (dX12_year_84) ?_
      obtain ⟨q6, h⟩ := wpO_g h
      refine g_iaload (n := 240) hC (dX12_year_85) rfl q6 ?_
      refine g_aload_n (i := 0) (x := 36) hC (dX12_year_86) rfl rfl ?_
      refine g_getR (r := 50) hC flX12_58 (dX12_year_87) rfl rfl rfl ?_
      refine g_iconst (v := 3) hC (dX12_year_90) kc_3 ?_
      refine g_iload_n (i := 2) (x := x2) hC (dX12_year_91) rfl rfl ?_
      refine g_imul hC (dX12_year_92) ?_
      refine g_iconst (v := 1) hC (dX12_year_93) kc_1 ?_
      refine g_iadd hC (dX12_year_94) ?_
      obtain ⟨q7, h⟩ := wpO_g h
      refine g_iaload (n := 240) hC (dX12_year_95) rfl q7 ?_
      refine g_aload_n (i := 0) (x := 36) hC (dX12_year_96) rfl rfl ?_
      refine g_getR (r := 50) hC flX12_58 (dX12_year_97) rfl rfl rfl ?_
      refine g_iconst (v := 3) hC (dX12_year_100) kc_3 ?_
      refine g_iload_n (i := 2) (x := x2) hC (dX12_year_101) rfl rfl ?_
      refine g_imul hC (dX12_year_102) ?_
      refine g_iconst (v := 2) hC (dX12_year_103) kc_2 ?_
      refine g_iadd hC (dX12_year_104) ?_
      obtain ⟨q8, h⟩ := wpO_g h
      refine g_iaload (n := 240) hC (dX12_year_105) rfl q8 ?_
      have h := wpO_b h
      refine g_callVi ([.int (M.1 50 (3 * x2).toNatClampNeg), .int (M.1 50 ((3 * x2) + 1).toNatClampNeg), .int (M.1 50 ((3 * x2) + 2).toNatClampNeg)]) hC wvX12_290 (dX12_year_106) rfl rfl (by omega) (Nat.le_of_ble_eq_true rfl) (cX12_act_ok (by omega) (M.1 50 (3 * x2).toNatClampNeg) (M.1 50 ((3 * x2) + 1).toNatClampNeg) (M.1 50 ((3 * x2) + 2).toNatClampNeg) M h) (fun r9 M106 h => ?_)
      have h := wpO_p h
      refine g_if_eq (tgt := 118) hC (dX12_year_109) (by decide) (fun c109 => ?_) (fun c109 => ?_)
      · have h := wpO_t c109 h
        exact hx _ _ (wpO_s h)
      · have h := wpO_f c109 h
        refine g_iinc (x := x2) (v := (x2 + 1)) (lv2 := [(2, .int (x2 + 1)), (0, .ref 36), (1, .int x1)]) hC (dX12_year_112) rfl rfl (by decide) rfl ?_
        refine g_goto (tgt := 72) hC (dX12_year_115) (by decide) ?_
        refine g_sub (lv' := [(0, .ref 36), (1, .int x1), (2, .int (x2 + 1))]) [1, 2, 0] rfl ?_
        exact ih _ _ h
set_option maxHeartbeats 4000000 in
theorem cX12_year_ok {E : zE} {d : Nat} (hd : 109 ≤ d)  (M : zM) {K : (Int32 × zM) → Prop} (h : wpO (fX12_year  M) K) : CMi E d yX12_year cX12_year 3 (some .int) [.ref 36] M (fun r N => K (r, N)) := by
  refine CMi.of (by decide) (Nat.le_of_ble_eq_true rfl) (fun Γ hC hr => ?_)
  have hC : Cx E Γ RX12 cX12_year 3 d := hC
  show G E Γ 3 0 [(0, .ref 36)] [] M
  unfold fX12_year at h
  refine g_aload_n (i := 0) (x := 36) hC (dX12_year_0) rfl rfl ?_
  refine g_iconst (v := 0) hC (dX12_year_1) kc_0 ?_
  refine g_putI hC fpX12_86 (dX12_year_2) rfl rfl rfl rfl ?_
  refine g_nmM (fun M2 e_M2 => ?_)
  have h := wpO_n e_M2 h
  refine g_aload_n (i := 0) (x := 36) hC (dX12_year_5) rfl rfl ?_
  refine g_bipush (v := 60) hC (dX12_year_6) kb_60 ?_
  refine g_callVv ([.int 60]) hC wvX12_150 (dX12_year_8) rfl rfl (by omega) (Nat.le_of_ble_eq_true rfl) (cX12_beginText_ok (by omega) 60 M2 (K := fun r => r = fX12_beginText 60 M2) rfl) (fun N q => ?_)
  subst q
  refine g_nmM (fun M8 e_M8 => ?_)
  have h := wpO_n e_M8 h
  refine g_iconst (v := 0) hC (dX12_year_11) kc_0 ?_
  refine g_istore_n (i := 1) (lv2 := [(1, .int 0), (0, .ref 36)]) hC (dX12_year_12) rfl (by decide) rfl ?_
  refine g_sub (lv' := [(0, .ref 36), (1, .int 0)]) [1, 0] rfl ?_
  refine wpO_bJ h (fun KL13 hKL13 h => ?_)
  refine lX12_year_13 (K1 := KL13) hC (by omega)  (fun x1_44 M_44 h => ?_) _ _ _ h
  have h := hKL13 _ h
  have h := wpO_p h
  refine g_aload_n (i := 0) (x := 36) hC (dX12_year_44) rfl rfl ?_
  refine g_callVi ([]) hC wvX12_157 (dX12_year_45) rfl rfl (by omega) (Nat.le_of_ble_eq_true rfl) (cX12_wasRight_ok (by omega) M_44 (K := fun r => r = fX12_wasRight M_44) rfl) (fun r N q => ?_)
  obtain ⟨rfl, rfl⟩ : r = (fX12_wasRight M_44).1 ∧ N = (fX12_wasRight M_44).2 := ⟨congrArg Prod.fst q, congrArg Prod.snd q⟩
  refine g_nmM (fun M45 e_M45 => ?_)
  have h := wpO_n e_M45 h
  refine g_if_ne (tgt := 58) hC (dX12_year_48) (by decide) (fun c48 => ?_) (fun c48 => ?_)
  · have h := wpO_f c48 h
    refine g_aload_n (i := 0) (x := 36) hC (dX12_year_58) rfl rfl ?_
    refine g_getR (r := 37) hC flX12_9 (dX12_year_59) rfl rfl rfl ?_
    refine g_aload_n (i := 0) (x := 36) hC (dX12_year_62) rfl rfl ?_
    refine g_getR (r := 48) hC flX12_52 (dX12_year_63) rfl rfl rfl ?_
    refine g_iconst (v := 0) hC (dX12_year_66) kc_0 ?_
    have h := wpO_b h
    refine g_callSv ([.ref 37, .ref 48, .int 0]) hC wsX12_239 (dX12_year_67) rfl (by omega) (Nat.le_of_ble_eq_true rfl) (cX12_lay_ok (by omega) 37 48 0 M45 h) (fun M67 h => ?_)
    refine g_iconst (v := 0) hC (dX12_year_70) kc_0 ?_
    refine g_istore_n (i := 2) (lv2 := [(2, .int 0), (0, .ref 36), (1, .int x1_44)]) hC (dX12_year_71) rfl (by decide) rfl ?_
    refine g_sub (lv' := [(0, .ref 36), (1, .int x1_44), (2, .int 0)]) [1, 2, 0] rfl ?_
    refine wpO_bJ h (fun KL72 hKL72 h => ?_)
    refine lX12_year_72 (K1 := KL72) hC (by omega) x1_44 (fun x2_118 M_118 h => ?_) _ _ _ h
    have h := hKL72 _ h
    have h := wpO_p h
    refine g_iload_n (i := 2) (x := x2_118) hC (dX12_year_118) rfl rfl ?_
    refine wpO_bJ h (fun KJ10 hKJ10 h => ?_)
    have hJ10 : ∀ (M_130 : zM), KJ10 M_130 → G E Γ 3 130 [(0, .ref 36), (1, .int x1_44), (2, .int x2_118)] [] M_130 := by
      intro M_130 h
      have h := hKJ10 _ h
      refine g_aload_n (i := 0) (x := 36) hC (dX12_year_130) rfl rfl ?_
      refine g_iconst (v := 0) hC (dX12_year_131) kc_0 ?_
      refine g_putI hC fpX12_89 (dX12_year_132) rfl rfl rfl rfl ?_
      refine g_nmM (fun M132 e_M132 => ?_)
      have h := wpO_n e_M132 h
      refine g_aload_n (i := 0) (x := 36) hC (dX12_year_135) rfl rfl ?_
      refine g_iload_n (i := 2) (x := x2_118) hC (dX12_year_136) rfl rfl ?_
      refine g_iload_n (i := 1) (x := x1_44) hC (dX12_year_137) rfl rfl ?_
      obtain ⟨s0_146, e_s0_146, h⟩ := wpO_l h
      have hJ12 : G E Γ 3 146 [(0, .ref 36), (2, .int x2_118)] [.long s0_146, .ref 36] M132 := by
        have h := wpO_b h
        refine g_callVv ([.long s0_146]) hC wvX12_280 (dX12_year_146) rfl rfl (by omega) (Nat.le_of_ble_eq_true rfl) (cX12_tell_ok (by omega) s0_146 M132 h) (fun M146 h => ?_)
        refine g_aload_n (i := 0) (x := 36) hC (dX12_year_149) rfl rfl ?_
        refine g_aload_n (i := 0) (x := 36) hC (dX12_year_150) rfl rfl ?_
        refine g_aload_n (i := 0) (x := 36) hC (dX12_year_151) rfl rfl ?_
        refine g_aload_n (i := 0) (x := 36) hC (dX12_year_152) rfl rfl ?_
        refine g_getR (r := 37) hC flX12_9 (dX12_year_153) rfl rfl rfl ?_
        refine g_bipush (v := 6) hC (dX12_year_156) kb_6 ?_
        have h := wpO_b h
        refine g_callVi ([.ref 37, .int 6]) hC wvX12_213 (dX12_year_158) rfl rfl (by omega) (Nat.le_of_ble_eq_true rfl) (cX12_hadBy_ok (by omega) 37 6 M146 h) (fun r14 N q => ?_)
        obtain ⟨rfl, h⟩ := q
        have h := wpO_b h
        refine g_callVi ([.int r14]) hC wvX12_284 (dX12_year_161) rfl rfl (by omega) (Nat.le_of_ble_eq_true rfl) (cX12_canWith_ok (by omega) r14 M146 h) (fun r15 N q => ?_)
        obtain ⟨rfl, h⟩ := q
        refine g_i2l hC (dX12_year_164) ?_
        have h := wpO_b h
        refine g_callVv ([.long r15.toInt64]) hC wvX12_280 (dX12_year_165) rfl rfl (by omega) (Nat.le_of_ble_eq_true rfl) (cX12_tell_ok (by omega) r15.toInt64 M146 h) (fun M165 h => ?_)
        refine g_iload_n (i := 2) (x := x2_118) hC (dX12_year_168) rfl rfl ?_
        refine g_ireturn hC hr (dX12_year_169) ?_
        exact wpO_s h
      refine g_icmp_ge (tgt := 145) hC (dX12_year_138) (by decide) (fun c138 => ?_) (fun c138 => ?_)
      · rw [if_pos c138] at e_s0_146
        refine g_lconst (v := 0) hC (dX12_year_145) kl_0 ?_
        refine g_sub (lv' := [(0, .ref 36), (2, .int x2_118)]) [0, 2] rfl ?_
        subst e_s0_146
        exact hJ12
      · rw [if_neg c138] at e_s0_146
        refine g_lconst (v := 1) hC (dX12_year_141) kl_1 ?_
        refine g_goto (tgt := 146) hC (dX12_year_142) (by decide) ?_
        refine g_sub (lv' := [(0, .ref 36), (2, .int x2_118)]) [0, 2] rfl ?_
        subst e_s0_146
        exact hJ12
    refine g_if_le (tgt := 130) hC (dX12_year_119) (by decide) (fun c119 => ?_) (fun c119 => ?_)
    · have h := wpO_t c119 h
      exact hJ10 _ (wpO_s h)
    · have h := wpO_f c119 h
      refine g_aload_n (i := 0) (x := 36) hC (dX12_year_122) rfl rfl ?_
      refine g_aload_n (i := 0) (x := 36) hC (dX12_year_123) rfl rfl ?_
      refine g_getR (r := 48) hC flX12_52 (dX12_year_124) rfl rfl rfl ?_
      have h := wpO_b h
      refine g_callVv ([.ref 48]) hC wvX12_247 (dX12_year_127) rfl rfl (by omega) (Nat.le_of_ble_eq_true rfl) (cX12_remember_ok (by omega) 48 M_118 h) (fun M127 h => ?_)
      exact hJ10 _ (wpO_s h)
  · have h := wpO_t c48 h
    refine g_iconst (v := (-1)) hC (dX12_year_51) kc_m1 ?_
    refine g_aload_n (i := 0) (x := 36) hC (dX12_year_52) rfl rfl ?_
    refine g_getI hC flX12_117 (dX12_year_53) rfl rfl ?_
    refine g_isub hC (dX12_year_56) ?_
    refine g_ireturn hC hr (dX12_year_57) ?_
    exact wpO_s h
/-! LostByStateModel.undo()I -/
theorem dX12_undo_0 : decode cX12_undo 0 = .ok (.aload_n 0, 1) := by decide +kernel
theorem dX12_undo_1 : decode cX12_undo 1 = .ok (.iconst 0, 1) := by decide +kernel
theorem dX12_undo_2 : decode cX12_undo 2 = .ok (.putfield 86, 3) := by decide +kernel
theorem dX12_undo_5 : decode cX12_undo 5 = .ok (.aload_n 0, 1) := by decide +kernel
theorem dX12_undo_6 : decode cX12_undo 6 = .ok (.getfield 144, 3) := by decide +kernel
theorem dX12_undo_9 : decode cX12_undo 9 = .ok (.ifCond .ne 5, 3) := by decide +kernel
theorem dX12_undo_12 : decode cX12_undo 12 = .ok (.iconst (-1), 1) := by decide +kernel
theorem dX12_undo_13 : decode cX12_undo 13 = .ok (.ireturn, 1) := by decide +kernel
theorem dX12_undo_14 : decode cX12_undo 14 = .ok (.aload_n 0, 1) := by decide +kernel
theorem dX12_undo_15 : decode cX12_undo 15 = .ok (.dup, 1) := by decide +kernel
theorem dX12_undo_16 : decode cX12_undo 16 = .ok (.getfield 144, 3) := by decide +kernel
theorem dX12_undo_19 : decode cX12_undo 19 = .ok (.iconst 1, 1) := by decide +kernel
theorem dX12_undo_20 : decode cX12_undo 20 = .ok (.isub, 1) := by decide +kernel
theorem dX12_undo_21 : decode cX12_undo 21 = .ok (.putfield 144, 3) := by decide +kernel
theorem dX12_undo_24 : decode cX12_undo 24 = .ok (.iconst 0, 1) := by decide +kernel
theorem dX12_undo_25 : decode cX12_undo 25 = .ok (.istore_n 1, 1) := by decide +kernel
theorem dX12_undo_26 : decode cX12_undo 26 = .ok (.iload_n 1, 1) := by decide +kernel
theorem dX12_undo_27 : decode cX12_undo 27 = .ok (.bipush 26, 2) := by decide +kernel
theorem dX12_undo_29 : decode cX12_undo 29 = .ok (.if_icmp .ge 29, 3) := by decide +kernel
theorem dX12_undo_32 : decode cX12_undo 32 = .ok (.aload_n 0, 1) := by decide +kernel
theorem dX12_undo_33 : decode cX12_undo 33 = .ok (.getfield 9, 3) := by decide +kernel
theorem dX12_undo_36 : decode cX12_undo 36 = .ok (.iload_n 1, 1) := by decide +kernel
theorem dX12_undo_37 : decode cX12_undo 37 = .ok (.aload_n 0, 1) := by decide +kernel
theorem dX12_undo_38 : decode cX12_undo 38 = .ok (.getfield 49, 3) := by decide +kernel
theorem dX12_undo_41 : decode cX12_undo 41 = .ok (.bipush 26, 2) := by decide +kernel
theorem dX12_undo_43 : decode cX12_undo 43 = .ok (.aload_n 0, 1) := by decide +kernel
theorem dX12_undo_44 : decode cX12_undo 44 = .ok (.getfield 144, 3) := by decide +kernel
theorem dX12_undo_47 : decode cX12_undo 47 = .ok (.imul, 1) := by decide +kernel
theorem dX12_undo_48 : decode cX12_undo 48 = .ok (.iload_n 1, 1) := by decide +kernel
theorem dX12_undo_49 : decode cX12_undo 49 = .ok (.iadd, 1) := by decide +kernel
theorem dX12_undo_50 : decode cX12_undo 50 = .ok (.iaload, 1) := by decide +kernel
theorem dX12_undo_51 : decode cX12_undo 51 = .ok (.iastore, 1) := by decide +kernel
theorem dX12_undo_52 : decode cX12_undo 52 = .ok (.iinc 1 1, 3) := by decide +kernel
theorem dX12_undo_55 : decode cX12_undo 55 = .ok (.goto (-29), 3) := by decide +kernel
theorem dX12_undo_58 : decode cX12_undo 58 = .ok (.aload_n 0, 1) := by decide +kernel
theorem dX12_undo_59 : decode cX12_undo 59 = .ok (.getfield 144, 3) := by decide +kernel
theorem dX12_undo_62 : decode cX12_undo 62 = .ok (.ireturn, 1) := by decide +kernel
def fX12_undo_L26 : Nat → Int32 → zM → Option zM
  | 0, _, _ => none
  | n + 1, x1, M => if 26 ≤ x1 then (
    some M)
    else (
    if zin ((26 * (M.1 36 25)) + x1) 312 then (
    if zin x1 26 then (
    zlet (zSI M 37 x1.toNatClampNeg (M.1 47 ((26 * (M.1 36 25)) + x1).toNatClampNeg)) fun (M51 : zM) =>
    fX12_undo_L26 n (x1 + 1) M51) else none) else none)
def fX12_undo  (M : zM) : Option (Int32 × zM) := zlet (zSI M 36 12 0) fun (M2 : zM) =>
  if (M2.1 36 25) = 0 then (
  some ((-1), M2))
  else (
  zlet (zSI M2 36 25 ((M2.1 36 25) - 1)) fun (M21 : zM) =>
  (fX12_undo_L26 4000 0 M21).bind fun (M_58 : zM) =>
  some (M_58.1 36 25, M_58))
set_option maxHeartbeats 4000000 in
theorem lX12_undo_26 {E : zE} {Γ : zT} {d : Nat} {K1 : zM → Prop} (hC : Cx E Γ RX12 cX12_undo 2 d) (hd : 0 ≤ d) (hx : ∀ (M_58 : zM), K1 M_58 → G E Γ 2 58 [(0, .ref 36)] [] M_58) :
    ∀ (n : Nat) (x1 : Int32) (M : zM), wpO (fX12_undo_L26 n x1 M) K1 → G E Γ 2 26 [(0, .ref 36), (1, .int x1)] [] M := by
  intro n
  induction n with
  | zero =>
    intro x1 M h
    exact (wpO_0 h).elim
  | succ n ih =>
    intro x1 M h
    rw [fX12_undo_L26.eq_2] at h
    refine g_iload_n (i := 1) (x := x1) hC (dX12_undo_26) rfl rfl ?_
    refine g_bipush (v := 26) hC (dX12_undo_27) kb_26 ?_
    refine g_icmp_ge (tgt := 58) hC (dX12_undo_29) (by decide) (fun c29 => ?_) (fun c29 => ?_)
    · have h := wpO_t c29 h
      refine g_sub (lv' := [(0, .ref 36)]) [0] rfl ?_
      exact hx _ (wpO_s h)
    · have h := wpO_f c29 h
      refine g_aload_n (i := 0) (x := 36) hC (dX12_undo_32) rfl rfl ?_
      refine g_getR (r := 37) hC flX12_9 (dX12_undo_33) rfl rfl rfl ?_
      refine g_iload_n (i := 1) (x := x1) hC (dX12_undo_36) rfl rfl ?_
      refine g_aload_n (i := 0) (x := 36) hC (dX12_undo_37) rfl rfl ?_
      refine g_getR (r := 47) hC flX12_49 (dX12_undo_38) rfl rfl rfl ?_
      refine g_bipush (v := 26) hC (dX12_undo_41) kb_26 ?_
      refine g_aload_n (i := 0) (x := 36) hC (dX12_undo_43) rfl rfl ?_
      refine g_getI hC flX12_144 (dX12_undo_44) rfl rfl ?_
      refine g_imul hC (dX12_undo_47) ?_
      refine g_iload_n (i := 1) (x := x1) hC (dX12_undo_48) rfl rfl ?_
      refine g_iadd hC (dX12_undo_49) ?_
      obtain ⟨q1, h⟩ := wpO_g h
      refine g_iaload (n := 312) hC (dX12_undo_50) rfl q1 ?_
      obtain ⟨q2, h⟩ := wpO_g h
      refine g_iastore (n := 26) hC (dX12_undo_51) rfl q2 ?_
      refine g_nmM (fun M51 e_M51 => ?_)
      have h := wpO_n e_M51 h
      refine g_iinc (x := x1) (v := (x1 + 1)) (lv2 := [(1, .int (x1 + 1)), (0, .ref 36)]) hC (dX12_undo_52) rfl rfl (by decide) rfl ?_
      refine g_goto (tgt := 26) hC (dX12_undo_55) (by decide) ?_
      refine g_sub (lv' := [(0, .ref 36), (1, .int (x1 + 1))]) [1, 0] rfl ?_
      exact ih _ _ h
set_option maxHeartbeats 4000000 in
theorem cX12_undo_ok {E : zE} {d : Nat} (hd : 0 ≤ d)  (M : zM) {K : (Int32 × zM) → Prop} (h : wpO (fX12_undo  M) K) : CMi E d yX12_undo cX12_undo 2 (some .int) [.ref 36] M (fun r N => K (r, N)) := by
  refine CMi.of (by decide) (Nat.le_of_ble_eq_true rfl) (fun Γ hC hr => ?_)
  have hC : Cx E Γ RX12 cX12_undo 2 d := hC
  show G E Γ 2 0 [(0, .ref 36)] [] M
  unfold fX12_undo at h
  refine g_aload_n (i := 0) (x := 36) hC (dX12_undo_0) rfl rfl ?_
  refine g_iconst (v := 0) hC (dX12_undo_1) kc_0 ?_
  refine g_putI hC fpX12_86 (dX12_undo_2) rfl rfl rfl rfl ?_
  refine g_nmM (fun M2 e_M2 => ?_)
  have h := wpO_n e_M2 h
  refine g_aload_n (i := 0) (x := 36) hC (dX12_undo_5) rfl rfl ?_
  refine g_getI hC flX12_144 (dX12_undo_6) rfl rfl ?_
  refine g_if_ne (tgt := 14) hC (dX12_undo_9) (by decide) (fun c9 => ?_) (fun c9 => ?_)
  · have h := wpO_f c9 h
    refine g_aload_n (i := 0) (x := 36) hC (dX12_undo_14) rfl rfl ?_
    refine g_dup hC (dX12_undo_15) rfl ?_
    refine g_getI hC flX12_144 (dX12_undo_16) rfl rfl ?_
    refine g_iconst (v := 1) hC (dX12_undo_19) kc_1 ?_
    refine g_isub hC (dX12_undo_20) ?_
    refine g_putI hC fpX12_144 (dX12_undo_21) rfl rfl rfl rfl ?_
    refine g_nmM (fun M21 e_M21 => ?_)
    have h := wpO_n e_M21 h
    refine g_iconst (v := 0) hC (dX12_undo_24) kc_0 ?_
    refine g_istore_n (i := 1) (lv2 := [(1, .int 0), (0, .ref 36)]) hC (dX12_undo_25) rfl (by decide) rfl ?_
    refine g_sub (lv' := [(0, .ref 36), (1, .int 0)]) [1, 0] rfl ?_
    refine wpO_bJ h (fun KL26 hKL26 h => ?_)
    refine lX12_undo_26 (K1 := KL26) hC (by omega)  (fun M_58 h => ?_) _ _ _ h
    have h := hKL26 _ h
    refine g_aload_n (i := 0) (x := 36) hC (dX12_undo_58) rfl rfl ?_
    refine g_getI hC flX12_144 (dX12_undo_59) rfl rfl ?_
    refine g_ireturn hC hr (dX12_undo_62) ?_
    exact wpO_s h
  · have h := wpO_t c9 h
    refine g_iconst (v := (-1)) hC (dX12_undo_12) kc_m1 ?_
    refine g_ireturn hC hr (dX12_undo_13) ?_
    exact wpO_s h
/-! LostByStateModel.match(II)I -/
theorem dX12_match_0 : decode cX12_match 0 = .ok (.aload_n 0, 1) := by decide +kernel
theorem dX12_match_1 : decode cX12_match 1 = .ok (.iconst 0, 1) := by decide +kernel
theorem dX12_match_2 : decode cX12_match 2 = .ok (.putfield 86, 3) := by decide +kernel
theorem dX12_match_5 : decode cX12_match 5 = .ok (.iload_n 1, 1) := by decide +kernel
theorem dX12_match_6 : decode cX12_match 6 = .ok (.invokestatic 264, 3) := by decide +kernel
theorem dX12_match_9 : decode cX12_match 9 = .ok (.ifCond .eq 31, 3) := by decide +kernel
theorem dX12_match_12 : decode cX12_match 12 = .ok (.aload_n 0, 1) := by decide +kernel
theorem dX12_match_13 : decode cX12_match 13 = .ok (.iload_n 2, 1) := by decide +kernel
theorem dX12_match_14 : decode cX12_match 14 = .ok (.invokevirtual 220, 3) := by decide +kernel
theorem dX12_match_17 : decode cX12_match 17 = .ok (.ifCond .eq 23, 3) := by decide +kernel
theorem dX12_match_20 : decode cX12_match 20 = .ok (.sipush 1000, 3) := by decide +kernel
theorem dX12_match_23 : decode cX12_match 23 = .ok (.aload_n 0, 1) := by decide +kernel
theorem dX12_match_24 : decode cX12_match 24 = .ok (.aload_n 0, 1) := by decide +kernel
theorem dX12_match_25 : decode cX12_match 25 = .ok (.getfield 9, 3) := by decide +kernel
theorem dX12_match_28 : decode cX12_match 28 = .ok (.iload_n 1, 1) := by decide +kernel
theorem dX12_match_29 : decode cX12_match 29 = .ok (.iload_n 2, 1) := by decide +kernel
theorem dX12_match_30 : decode cX12_match 30 = .ok (.invokevirtual 258, 3) := by decide +kernel
theorem dX12_match_33 : decode cX12_match 33 = .ok (.invokestatic 296, 3) := by decide +kernel
theorem dX12_match_36 : decode cX12_match 36 = .ok (.iadd, 1) := by decide +kernel
theorem dX12_match_37 : decode cX12_match 37 = .ok (.goto 4, 3) := by decide +kernel
theorem dX12_match_40 : decode cX12_match 40 = .ok (.iconst (-1), 1) := by decide +kernel
theorem dX12_match_41 : decode cX12_match 41 = .ok (.ireturn, 1) := by decide +kernel
def fX12_match (x1 : Int32) (x2 : Int32) (M : zM) : Option (Int32 × zM) := zlet (zSI M 36 12 0) fun (M2 : zM) =>
  if (fX12_areMarks x1) = 0 then (
  some ((-1), M2))
  else (
  if (fX12_isThing x2 M2) = 0 then (
  some ((-1), M2))
  else (
  (fX12_matchOf 37 x1 x2 M2).bind fun (q : Int32 × zM) => zp q fun r3 M30 =>
  some (1000 + (fX12_put r3), M30)))
set_option maxHeartbeats 4000000 in
theorem cX12_match_ok {E : zE} {d : Nat} (hd : 106 ≤ d) (x1 : Int32) (x2 : Int32) (M : zM) {K : (Int32 × zM) → Prop} (h : wpO (fX12_match x1 x2 M) K) : CMi E d yX12_match cX12_match 3 (some .int) [.ref 36, .int x1, .int x2] M (fun r N => K (r, N)) := by
  refine CMi.of (by decide) (Nat.le_of_ble_eq_true rfl) (fun Γ hC hr => ?_)
  have hC : Cx E Γ RX12 cX12_match 3 d := hC
  show G E Γ 3 0 [(0, .ref 36), (1, .int x1), (2, .int x2)] [] M
  unfold fX12_match at h
  refine g_aload_n (i := 0) (x := 36) hC (dX12_match_0) rfl rfl ?_
  refine g_iconst (v := 0) hC (dX12_match_1) kc_0 ?_
  refine g_putI hC fpX12_86 (dX12_match_2) rfl rfl rfl rfl ?_
  refine g_nmM (fun M2 e_M2 => ?_)
  have h := wpO_n e_M2 h
  refine g_iload_n (i := 1) (x := x1) hC (dX12_match_5) rfl rfl ?_
  refine g_callSi ([.int x1]) hC wsX12_264 (dX12_match_6) rfl (by omega) (Nat.le_of_ble_eq_true rfl) (cX12_areMarks_ok (by omega) x1 M2 (K := fun r => r = fX12_areMarks x1) rfl) (fun r N q => ?_)
  obtain ⟨rfl, rfl⟩ := q
  refine g_if_eq (tgt := 40) hC (dX12_match_9) (by decide) (fun c9 => ?_) (fun c9 => ?_)
  · have h := wpO_t c9 h
    refine g_iconst (v := (-1)) hC (dX12_match_40) kc_m1 ?_
    refine g_ireturn hC hr (dX12_match_41) ?_
    exact wpO_s h
  · have h := wpO_f c9 h
    refine g_aload_n (i := 0) (x := 36) hC (dX12_match_12) rfl rfl ?_
    refine g_iload_n (i := 2) (x := x2) hC (dX12_match_13) rfl rfl ?_
    refine g_callVi ([.int x2]) hC wvX12_220 (dX12_match_14) rfl rfl (by omega) (Nat.le_of_ble_eq_true rfl) (cX12_isThing_ok (by omega) x2 M2 (K := fun r => r = fX12_isThing x2 M2) rfl) (fun r N q => ?_)
    obtain ⟨rfl, rfl⟩ := q
    refine g_if_eq (tgt := 40) hC (dX12_match_17) (by decide) (fun c17 => ?_) (fun c17 => ?_)
    · have h := wpO_t c17 h
      refine g_iconst (v := (-1)) hC (dX12_match_40) kc_m1 ?_
      refine g_ireturn hC hr (dX12_match_41) ?_
      exact wpO_s h
    · have h := wpO_f c17 h
      refine g_sipush (v := 1000) hC (dX12_match_20) ks_1000 ?_
      refine g_aload_n (i := 0) (x := 36) hC (dX12_match_23) rfl rfl ?_
      refine g_aload_n (i := 0) (x := 36) hC (dX12_match_24) rfl rfl ?_
      refine g_getR (r := 37) hC flX12_9 (dX12_match_25) rfl rfl rfl ?_
      refine g_iload_n (i := 1) (x := x1) hC (dX12_match_28) rfl rfl ?_
      refine g_iload_n (i := 2) (x := x2) hC (dX12_match_29) rfl rfl ?_
      have h := wpO_b h
      refine g_callVi ([.ref 37, .int x1, .int x2]) hC wvX12_258 (dX12_match_30) rfl rfl (by omega) (Nat.le_of_ble_eq_true rfl) (cX12_matchOf_ok (by omega) 37 x1 x2 M2 h) (fun r3 M30 h => ?_)
      have h := wpO_p h
      refine g_callSi ([.int r3]) hC wsX12_296 (dX12_match_33) rfl (by omega) (Nat.le_of_ble_eq_true rfl) (cX12_put_ok (by omega) r3 M30 (K := fun r => r = fX12_put r3) rfl) (fun r N q => ?_)
      obtain ⟨rfl, rfl⟩ := q
      refine g_iadd hC (dX12_match_36) ?_
      refine g_goto (tgt := 41) hC (dX12_match_37) (by decide) ?_
      refine g_ireturn hC hr (dX12_match_41) ?_
      exact wpO_s h
/-! LostByStateModel.gets(I)I -/
theorem dX12_gets_0 : decode cX12_gets 0 = .ok (.aload_n 0, 1) := by decide +kernel
theorem dX12_gets_1 : decode cX12_gets 1 = .ok (.iconst 0, 1) := by decide +kernel
theorem dX12_gets_2 : decode cX12_gets 2 = .ok (.putfield 86, 3) := by decide +kernel
theorem dX12_gets_5 : decode cX12_gets 5 = .ok (.iload_n 1, 1) := by decide +kernel
theorem dX12_gets_6 : decode cX12_gets 6 = .ok (.invokestatic 264, 3) := by decide +kernel
theorem dX12_gets_9 : decode cX12_gets 9 = .ok (.ifCond .ne 5, 3) := by decide +kernel
theorem dX12_gets_12 : decode cX12_gets 12 = .ok (.iconst (-1), 1) := by decide +kernel
theorem dX12_gets_13 : decode cX12_gets 13 = .ok (.ireturn, 1) := by decide +kernel
theorem dX12_gets_14 : decode cX12_gets 14 = .ok (.aload_n 0, 1) := by decide +kernel
theorem dX12_gets_15 : decode cX12_gets 15 = .ok (.aload_n 0, 1) := by decide +kernel
theorem dX12_gets_16 : decode cX12_gets 16 = .ok (.getfield 9, 3) := by decide +kernel
theorem dX12_gets_19 : decode cX12_gets 19 = .ok (.iload_n 1, 1) := by decide +kernel
theorem dX12_gets_20 : decode cX12_gets 20 = .ok (.invokevirtual 261, 3) := by decide +kernel
theorem dX12_gets_23 : decode cX12_gets 23 = .ok (.istore_n 2, 1) := by decide +kernel
theorem dX12_gets_24 : decode cX12_gets 24 = .ok (.iload_n 2, 1) := by decide +kernel
theorem dX12_gets_25 : decode cX12_gets 25 = .ok (.ifCond .ge 6, 3) := by decide +kernel
theorem dX12_gets_28 : decode cX12_gets 28 = .ok (.bipush (-2), 2) := by decide +kernel
theorem dX12_gets_30 : decode cX12_gets 30 = .ok (.ireturn, 1) := by decide +kernel
theorem dX12_gets_31 : decode cX12_gets 31 = .ok (.iconst 0, 1) := by decide +kernel
theorem dX12_gets_32 : decode cX12_gets 32 = .ok (.istore_n 3, 1) := by decide +kernel
theorem dX12_gets_33 : decode cX12_gets 33 = .ok (.iconst 0, 1) := by decide +kernel
theorem dX12_gets_34 : decode cX12_gets 34 = .ok (.istore 4, 2) := by decide +kernel
theorem dX12_gets_36 : decode cX12_gets 36 = .ok (.iload 4, 2) := by decide +kernel
theorem dX12_gets_38 : decode cX12_gets 38 = .ok (.aload_n 0, 1) := by decide +kernel
theorem dX12_gets_39 : decode cX12_gets 39 = .ok (.getfield 92, 3) := by decide +kernel
theorem dX12_gets_42 : decode cX12_gets 42 = .ok (.if_icmp .ge 46, 3) := by decide +kernel
theorem dX12_gets_45 : decode cX12_gets 45 = .ok (.iload_n 3, 1) := by decide +kernel
theorem dX12_gets_46 : decode cX12_gets 46 = .ok (.aload_n 0, 1) := by decide +kernel
theorem dX12_gets_47 : decode cX12_gets 47 = .ok (.getfield 9, 3) := by decide +kernel
theorem dX12_gets_50 : decode cX12_gets 50 = .ok (.iload 4, 2) := by decide +kernel
theorem dX12_gets_52 : decode cX12_gets 52 = .ok (.iaload, 1) := by decide +kernel
theorem dX12_gets_53 : decode cX12_gets 53 = .ok (.iconst 2, 1) := by decide +kernel
theorem dX12_gets_54 : decode cX12_gets 54 = .ok (.if_icmp .ne 25, 3) := by decide +kernel
theorem dX12_gets_57 : decode cX12_gets 57 = .ok (.aload_n 0, 1) := by decide +kernel
theorem dX12_gets_58 : decode cX12_gets 58 = .ok (.aload_n 0, 1) := by decide +kernel
theorem dX12_gets_59 : decode cX12_gets 59 = .ok (.getfield 9, 3) := by decide +kernel
theorem dX12_gets_62 : decode cX12_gets 62 = .ok (.iload_n 1, 1) := by decide +kernel
theorem dX12_gets_63 : decode cX12_gets 63 = .ok (.iload 4, 2) := by decide +kernel
theorem dX12_gets_65 : decode cX12_gets 65 = .ok (.invokevirtual 258, 3) := by decide +kernel
theorem dX12_gets_68 : decode cX12_gets 68 = .ok (.aload_n 0, 1) := by decide +kernel
theorem dX12_gets_69 : decode cX12_gets 69 = .ok (.getfield 17, 3) := by decide +kernel
theorem dX12_gets_72 : decode cX12_gets 72 = .ok (.if_icmp .lt 7, 3) := by decide +kernel
theorem dX12_gets_75 : decode cX12_gets 75 = .ok (.iconst 1, 1) := by decide +kernel
theorem dX12_gets_76 : decode cX12_gets 76 = .ok (.goto 4, 3) := by decide +kernel
theorem dX12_gets_79 : decode cX12_gets 79 = .ok (.iconst 0, 1) := by decide +kernel
theorem dX12_gets_80 : decode cX12_gets 80 = .ok (.iadd, 1) := by decide +kernel
theorem dX12_gets_81 : decode cX12_gets 81 = .ok (.istore_n 3, 1) := by decide +kernel
theorem dX12_gets_82 : decode cX12_gets 82 = .ok (.iinc 4 1, 3) := by decide +kernel
theorem dX12_gets_85 : decode cX12_gets 85 = .ok (.goto (-49), 3) := by decide +kernel
theorem dX12_gets_88 : decode cX12_gets 88 = .ok (.aload_n 0, 1) := by decide +kernel
theorem dX12_gets_89 : decode cX12_gets 89 = .ok (.iconst 0, 1) := by decide +kernel
theorem dX12_gets_90 : decode cX12_gets 90 = .ok (.putfield 89, 3) := by decide +kernel
theorem dX12_gets_93 : decode cX12_gets 93 = .ok (.aload_n 0, 1) := by decide +kernel
theorem dX12_gets_94 : decode cX12_gets 94 = .ok (.sipush 1000, 3) := by decide +kernel
theorem dX12_gets_97 : decode cX12_gets 97 = .ok (.aload_n 0, 1) := by decide +kernel
theorem dX12_gets_98 : decode cX12_gets 98 = .ok (.aload_n 0, 1) := by decide +kernel
theorem dX12_gets_99 : decode cX12_gets 99 = .ok (.getfield 9, 3) := by decide +kernel
theorem dX12_gets_102 : decode cX12_gets 102 = .ok (.iload_n 1, 1) := by decide +kernel
theorem dX12_gets_103 : decode cX12_gets 103 = .ok (.iload_n 2, 1) := by decide +kernel
theorem dX12_gets_104 : decode cX12_gets 104 = .ok (.invokevirtual 258, 3) := by decide +kernel
theorem dX12_gets_107 : decode cX12_gets 107 = .ok (.invokestatic 296, 3) := by decide +kernel
theorem dX12_gets_110 : decode cX12_gets 110 = .ok (.iadd, 1) := by decide +kernel
theorem dX12_gets_111 : decode cX12_gets 111 = .ok (.i2l, 1) := by decide +kernel
theorem dX12_gets_112 : decode cX12_gets 112 = .ok (.invokevirtual 280, 3) := by decide +kernel
theorem dX12_gets_115 : decode cX12_gets 115 = .ok (.aload_n 0, 1) := by decide +kernel
theorem dX12_gets_116 : decode cX12_gets 116 = .ok (.iload_n 3, 1) := by decide +kernel
theorem dX12_gets_117 : decode cX12_gets 117 = .ok (.i2l, 1) := by decide +kernel
theorem dX12_gets_118 : decode cX12_gets 118 = .ok (.invokevirtual 280, 3) := by decide +kernel
theorem dX12_gets_121 : decode cX12_gets 121 = .ok (.iload_n 2, 1) := by decide +kernel
theorem dX12_gets_122 : decode cX12_gets 122 = .ok (.ireturn, 1) := by decide +kernel
def fX12_gets_L36 (x1 : Int32) (x2 : Int32) : Nat → Int32 → Int32 → zM → Option (Int32 × zM)
  | 0, _, _, _ => none
  | n + 1, x3, x4, M => if (M.1 36 1) ≤ x4 then (
    some (x3, M))
    else (
    if zin x4 26 then (
    (if (M.1 37 x4.toNatClampNeg) = 2 then (
    (fX12_matchOf 37 x1 x4 M).bind fun (q : Int32 × zM) => zp q fun r5 M65 =>
    if r5 < (M65.1 36 4) then (
    some (0, M65))
    else (
    some (1, M65)))
    else (
    some (0, M)) : Option (Int32 × zM)).bind fun (q : Int32 × zM) => zp q fun s0_80 M_80 =>
    zlet (x3 + s0_80) fun (x3_81 : Int32) =>
    fX12_gets_L36 x1 x2 n x3_81 (x4 + 1) M_80) else none)
def fX12_gets (x1 : Int32) (M : zM) : Option (Int32 × zM) := zlet (zSI M 36 12 0) fun (M2 : zM) =>
  if (fX12_areMarks x1) = 0 then (
  some ((-1), M2))
  else (
  (fX12_gotBy 37 x1 M2).bind fun (q : Int32 × zM) => zp q fun r2 M20 =>
  if 0 ≤ r2 then (
  (fX12_gets_L36 x1 r2 4000 0 0 M20).bind fun (q : Int32 × zM) => zp q fun x3_88 M_88 =>
  zlet (zSI M_88 36 11 0) fun (M90 : zM) =>
  (fX12_matchOf 37 x1 r2 M90).bind fun (q : Int32 × zM) => zp q fun r6 M104 =>
  (fX12_tell ((1000 + (fX12_put r6)).toInt64) M104).bind fun (M112 : zM) =>
  (fX12_tell x3_88.toInt64 M112).bind fun (M118 : zM) =>
  some (r2, M118))
  else (
  some ((-2), M20)))
set_option maxHeartbeats 4000000 in
theorem lX12_gets_36 {E : zE} {Γ : zT} {d : Nat} {K1 : (Int32 × zM) → Prop} (hC : Cx E Γ RX12 cX12_gets 5 d) (hd : 107 ≤ d) (x1 : Int32) (x2 : Int32) (hx : ∀ (x3_88 : Int32) (M_88 : zM), K1 (x3_88, M_88) → G E Γ 5 88 [(0, .ref 36), (1, .int x1), (2, .int x2), (3, .int x3_88)] [] M_88) :
    ∀ (n : Nat) (x3 : Int32) (x4 : Int32) (M : zM), wpO (fX12_gets_L36 x1 x2 n x3 x4 M) K1 → G E Γ 5 36 [(0, .ref 36), (1, .int x1), (2, .int x2), (3, .int x3), (4, .int x4)] [] M := by
  intro n
  induction n with
  | zero =>
    intro x3 x4 M h
    exact (wpO_0 h).elim
  | succ n ih =>
    intro x3 x4 M h
    rw [fX12_gets_L36.eq_2] at h
    refine g_iload (i := 4) (x := x4) hC (dX12_gets_36) rfl ?_
    refine g_aload_n (i := 0) (x := 36) hC (dX12_gets_38) rfl rfl ?_
    refine g_getI hC flX12_92 (dX12_gets_39) rfl rfl ?_
    refine g_icmp_ge (tgt := 88) hC (dX12_gets_42) (by decide) (fun c42 => ?_) (fun c42 => ?_)
    · have h := wpO_t c42 h
      refine g_sub (lv' := [(0, .ref 36), (1, .int x1), (2, .int x2), (3, .int x3)]) [0, 1, 2, 3] rfl ?_
      exact hx _ _ (wpO_s h)
    · have h := wpO_f c42 h
      refine g_iload_n (i := 3) (x := x3) hC (dX12_gets_45) rfl rfl ?_
      refine g_aload_n (i := 0) (x := 36) hC (dX12_gets_46) rfl rfl ?_
      refine g_getR (r := 37) hC flX12_9 (dX12_gets_47) rfl rfl rfl ?_
      refine g_iload (i := 4) (x := x4) hC (dX12_gets_50) rfl ?_
      obtain ⟨q3, h⟩ := wpO_g h
      refine g_iaload (n := 26) hC (dX12_gets_52) rfl q3 ?_
      refine g_iconst (v := 2) hC (dX12_gets_53) kc_2 ?_
      refine wpO_bJ h (fun KJ4 hKJ4 h => ?_)
      have hJ4 : ∀ (s0_80 : Int32) (M_80 : zM), KJ4 (s0_80, M_80) → G E Γ 5 80 [(0, .ref 36), (1, .int x1), (2, .int x2), (4, .int x4)] [.int s0_80, .int x3] M_80 := by
        intro s0_80 M_80 h
        have h := hKJ4 _ h
        have h := wpO_p h
        refine g_iadd hC (dX12_gets_80) ?_
        refine g_nmi (fun x3_81 e_x3_81 => ?_)
        have h := wpO_n e_x3_81 h
        refine g_istore_n (i := 3) (lv2 := [(3, .int x3_81), (0, .ref 36), (1, .int x1), (2, .int x2), (4, .int x4)]) hC (dX12_gets_81) rfl (by decide) rfl ?_
        refine g_iinc (x := x4) (v := (x4 + 1)) (lv2 := [(4, .int (x4 + 1)), (3, .int x3_81), (0, .ref 36), (1, .int x1), (2, .int x2)]) hC (dX12_gets_82) rfl rfl (by decide) rfl ?_
        refine g_goto (tgt := 36) hC (dX12_gets_85) (by decide) ?_
        refine g_sub (lv' := [(0, .ref 36), (1, .int x1), (2, .int x2), (3, .int x3_81), (4, .int (x4 + 1))]) [2, 3, 4, 1, 0] rfl ?_
        exact ih _ _ _ h
      refine g_icmp_ne (tgt := 79) hC (dX12_gets_54) (by decide) (fun c54 => ?_) (fun c54 => ?_)
      · have h := wpO_f c54 h
        refine g_iconst (v := 0) hC (dX12_gets_79) kc_0 ?_
        refine g_sub (lv' := [(0, .ref 36), (1, .int x1), (2, .int x2), (4, .int x4)]) [0, 1, 2, 4] rfl ?_
        exact hJ4 _ _ (wpO_s h)
      · have h := wpO_t c54 h
        refine g_aload_n (i := 0) (x := 36) hC (dX12_gets_57) rfl rfl ?_
        refine g_aload_n (i := 0) (x := 36) hC (dX12_gets_58) rfl rfl ?_
        refine g_getR (r := 37) hC flX12_9 (dX12_gets_59) rfl rfl rfl ?_
        refine g_iload_n (i := 1) (x := x1) hC (dX12_gets_62) rfl rfl ?_
        refine g_iload (i := 4) (x := x4) hC (dX12_gets_63) rfl ?_
        have h := wpO_b h
        refine g_callVi ([.ref 37, .int x1, .int x4]) hC wvX12_258 (dX12_gets_65) rfl rfl (by omega) (Nat.le_of_ble_eq_true rfl) (cX12_matchOf_ok (by omega) 37 x1 x4 M h) (fun r5 M65 h => ?_)
        have h := wpO_p h
        refine g_aload_n (i := 0) (x := 36) hC (dX12_gets_68) rfl rfl ?_
        refine g_getI hC flX12_17 (dX12_gets_69) rfl rfl ?_
        refine g_icmp_lt (tgt := 79) hC (dX12_gets_72) (by decide) (fun c72 => ?_) (fun c72 => ?_)
        · have h := wpO_t c72 h
          refine g_iconst (v := 0) hC (dX12_gets_79) kc_0 ?_
          refine g_sub (lv' := [(0, .ref 36), (1, .int x1), (2, .int x2), (4, .int x4)]) [0, 1, 2, 4] rfl ?_
          exact hJ4 _ _ (wpO_s h)
        · have h := wpO_f c72 h
          refine g_iconst (v := 1) hC (dX12_gets_75) kc_1 ?_
          refine g_goto (tgt := 80) hC (dX12_gets_76) (by decide) ?_
          refine g_sub (lv' := [(0, .ref 36), (1, .int x1), (2, .int x2), (4, .int x4)]) [0, 1, 2, 4] rfl ?_
          exact hJ4 _ _ (wpO_s h)
set_option maxHeartbeats 4000000 in
theorem cX12_gets_ok {E : zE} {d : Nat} (hd : 107 ≤ d) (x1 : Int32) (M : zM) {K : (Int32 × zM) → Prop} (h : wpO (fX12_gets x1 M) K) : CMi E d yX12_gets cX12_gets 5 (some .int) [.ref 36, .int x1] M (fun r N => K (r, N)) := by
  refine CMi.of (by decide) (Nat.le_of_ble_eq_true rfl) (fun Γ hC hr => ?_)
  have hC : Cx E Γ RX12 cX12_gets 5 d := hC
  show G E Γ 5 0 [(0, .ref 36), (1, .int x1)] [] M
  unfold fX12_gets at h
  refine g_aload_n (i := 0) (x := 36) hC (dX12_gets_0) rfl rfl ?_
  refine g_iconst (v := 0) hC (dX12_gets_1) kc_0 ?_
  refine g_putI hC fpX12_86 (dX12_gets_2) rfl rfl rfl rfl ?_
  refine g_nmM (fun M2 e_M2 => ?_)
  have h := wpO_n e_M2 h
  refine g_iload_n (i := 1) (x := x1) hC (dX12_gets_5) rfl rfl ?_
  refine g_callSi ([.int x1]) hC wsX12_264 (dX12_gets_6) rfl (by omega) (Nat.le_of_ble_eq_true rfl) (cX12_areMarks_ok (by omega) x1 M2 (K := fun r => r = fX12_areMarks x1) rfl) (fun r N q => ?_)
  obtain ⟨rfl, rfl⟩ := q
  refine g_if_ne (tgt := 14) hC (dX12_gets_9) (by decide) (fun c9 => ?_) (fun c9 => ?_)
  · have h := wpO_f c9 h
    refine g_aload_n (i := 0) (x := 36) hC (dX12_gets_14) rfl rfl ?_
    refine g_aload_n (i := 0) (x := 36) hC (dX12_gets_15) rfl rfl ?_
    refine g_getR (r := 37) hC flX12_9 (dX12_gets_16) rfl rfl rfl ?_
    refine g_iload_n (i := 1) (x := x1) hC (dX12_gets_19) rfl rfl ?_
    have h := wpO_b h
    refine g_callVi ([.ref 37, .int x1]) hC wvX12_261 (dX12_gets_20) rfl rfl (by omega) (Nat.le_of_ble_eq_true rfl) (cX12_gotBy_ok (by omega) 37 x1 M2 h) (fun r2 M20 h => ?_)
    have h := wpO_p h
    refine g_istore_n (i := 2) (lv2 := [(2, .int r2), (0, .ref 36), (1, .int x1)]) hC (dX12_gets_23) rfl (by decide) rfl ?_
    refine g_iload_n (i := 2) (x := r2) hC (dX12_gets_24) rfl rfl ?_
    refine g_if_ge (tgt := 31) hC (dX12_gets_25) (by decide) (fun c25 => ?_) (fun c25 => ?_)
    · have h := wpO_t c25 h
      refine g_iconst (v := 0) hC (dX12_gets_31) kc_0 ?_
      refine g_istore_n (i := 3) (lv2 := [(3, .int 0), (2, .int r2), (0, .ref 36), (1, .int x1)]) hC (dX12_gets_32) rfl (by decide) rfl ?_
      refine g_iconst (v := 0) hC (dX12_gets_33) kc_0 ?_
      refine g_istore (i := 4) (lv2 := [(4, .int 0), (3, .int 0), (2, .int r2), (0, .ref 36), (1, .int x1)]) hC (dX12_gets_34) (by decide) rfl ?_
      refine g_sub (lv' := [(0, .ref 36), (1, .int x1), (2, .int r2), (3, .int 0), (4, .int 0)]) [3, 4, 2, 1, 0] rfl ?_
      refine wpO_bJ h (fun KL36 hKL36 h => ?_)
      refine lX12_gets_36 (K1 := KL36) hC (by omega) x1 r2 (fun x3_88 M_88 h => ?_) _ _ _ _ h
      have h := hKL36 _ h
      have h := wpO_p h
      refine g_aload_n (i := 0) (x := 36) hC (dX12_gets_88) rfl rfl ?_
      refine g_iconst (v := 0) hC (dX12_gets_89) kc_0 ?_
      refine g_putI hC fpX12_89 (dX12_gets_90) rfl rfl rfl rfl ?_
      refine g_nmM (fun M90 e_M90 => ?_)
      have h := wpO_n e_M90 h
      refine g_aload_n (i := 0) (x := 36) hC (dX12_gets_93) rfl rfl ?_
      refine g_sipush (v := 1000) hC (dX12_gets_94) ks_1000 ?_
      refine g_aload_n (i := 0) (x := 36) hC (dX12_gets_97) rfl rfl ?_
      refine g_aload_n (i := 0) (x := 36) hC (dX12_gets_98) rfl rfl ?_
      refine g_getR (r := 37) hC flX12_9 (dX12_gets_99) rfl rfl rfl ?_
      refine g_iload_n (i := 1) (x := x1) hC (dX12_gets_102) rfl rfl ?_
      refine g_iload_n (i := 2) (x := r2) hC (dX12_gets_103) rfl rfl ?_
      have h := wpO_b h
      refine g_callVi ([.ref 37, .int x1, .int r2]) hC wvX12_258 (dX12_gets_104) rfl rfl (by omega) (Nat.le_of_ble_eq_true rfl) (cX12_matchOf_ok (by omega) 37 x1 r2 M90 h) (fun r6 M104 h => ?_)
      have h := wpO_p h
      refine g_callSi ([.int r6]) hC wsX12_296 (dX12_gets_107) rfl (by omega) (Nat.le_of_ble_eq_true rfl) (cX12_put_ok (by omega) r6 M104 (K := fun r => r = fX12_put r6) rfl) (fun r N q => ?_)
      obtain ⟨rfl, rfl⟩ := q
      refine g_iadd hC (dX12_gets_110) ?_
      refine g_i2l hC (dX12_gets_111) ?_
      have h := wpO_b h
      refine g_callVv ([.long ((1000 + (fX12_put r6)).toInt64)]) hC wvX12_280 (dX12_gets_112) rfl rfl (by omega) (Nat.le_of_ble_eq_true rfl) (cX12_tell_ok (by omega) ((1000 + (fX12_put r6)).toInt64) M104 h) (fun M112 h => ?_)
      refine g_aload_n (i := 0) (x := 36) hC (dX12_gets_115) rfl rfl ?_
      refine g_iload_n (i := 3) (x := x3_88) hC (dX12_gets_116) rfl rfl ?_
      refine g_i2l hC (dX12_gets_117) ?_
      have h := wpO_b h
      refine g_callVv ([.long x3_88.toInt64]) hC wvX12_280 (dX12_gets_118) rfl rfl (by omega) (Nat.le_of_ble_eq_true rfl) (cX12_tell_ok (by omega) x3_88.toInt64 M112 h) (fun M118 h => ?_)
      refine g_iload_n (i := 2) (x := r2) hC (dX12_gets_121) rfl rfl ?_
      refine g_ireturn hC hr (dX12_gets_122) ?_
      exact wpO_s h
    · have h := wpO_f c25 h
      refine g_bipush (v := (-2)) hC (dX12_gets_28) kb_m2 ?_
      refine g_ireturn hC hr (dX12_gets_30) ?_
      exact wpO_s h
  · have h := wpO_t c9 h
    refine g_iconst (v := (-1)) hC (dX12_gets_12) kc_m1 ?_
    refine g_ireturn hC hr (dX12_gets_13) ?_
    exact wpO_s h
/-! LostByStateModel.fewest(I)I -/
theorem dX12_fewest_0 : decode cX12_fewest 0 = .ok (.aload_n 0, 1) := by decide +kernel
theorem dX12_fewest_1 : decode cX12_fewest 1 = .ok (.iconst 0, 1) := by decide +kernel
theorem dX12_fewest_2 : decode cX12_fewest 2 = .ok (.putfield 86, 3) := by decide +kernel
theorem dX12_fewest_5 : decode cX12_fewest 5 = .ok (.aload_n 0, 1) := by decide +kernel
theorem dX12_fewest_6 : decode cX12_fewest 6 = .ok (.iload_n 1, 1) := by decide +kernel
theorem dX12_fewest_7 : decode cX12_fewest 7 = .ok (.invokevirtual 220, 3) := by decide +kernel
theorem dX12_fewest_10 : decode cX12_fewest 10 = .ok (.ifCond .ne 5, 3) := by decide +kernel
theorem dX12_fewest_13 : decode cX12_fewest 13 = .ok (.iconst (-1), 1) := by decide +kernel
theorem dX12_fewest_14 : decode cX12_fewest 14 = .ok (.ireturn, 1) := by decide +kernel
theorem dX12_fewest_15 : decode cX12_fewest 15 = .ok (.iconst (-1), 1) := by decide +kernel
theorem dX12_fewest_16 : decode cX12_fewest 16 = .ok (.istore_n 2, 1) := by decide +kernel
theorem dX12_fewest_17 : decode cX12_fewest 17 = .ok (.iconst 0, 1) := by decide +kernel
theorem dX12_fewest_18 : decode cX12_fewest 18 = .ok (.istore_n 3, 1) := by decide +kernel
theorem dX12_fewest_19 : decode cX12_fewest 19 = .ok (.iload_n 3, 1) := by decide +kernel
theorem dX12_fewest_20 : decode cX12_fewest 20 = .ok (.sipush 256, 3) := by decide +kernel
theorem dX12_fewest_23 : decode cX12_fewest 23 = .ok (.if_icmp .ge 43, 3) := by decide +kernel
theorem dX12_fewest_26 : decode cX12_fewest 26 = .ok (.iload_n 2, 1) := by decide +kernel
theorem dX12_fewest_27 : decode cX12_fewest 27 = .ok (.iconst (-1), 1) := by decide +kernel
theorem dX12_fewest_28 : decode cX12_fewest 28 = .ok (.if_icmp .eq 17, 3) := by decide +kernel
theorem dX12_fewest_31 : decode cX12_fewest 31 = .ok (.iload_n 3, 1) := by decide +kernel
theorem dX12_fewest_32 : decode cX12_fewest 32 = .ok (.invokestatic 196, 3) := by decide +kernel
theorem dX12_fewest_35 : decode cX12_fewest 35 = .ok (.iload_n 2, 1) := by decide +kernel
theorem dX12_fewest_36 : decode cX12_fewest 36 = .ok (.invokestatic 196, 3) := by decide +kernel
theorem dX12_fewest_39 : decode cX12_fewest 39 = .ok (.if_icmp .lt 6, 3) := by decide +kernel
theorem dX12_fewest_42 : decode cX12_fewest 42 = .ok (.goto 18, 3) := by decide +kernel
theorem dX12_fewest_45 : decode cX12_fewest 45 = .ok (.aload_n 0, 1) := by decide +kernel
theorem dX12_fewest_46 : decode cX12_fewest 46 = .ok (.aload_n 0, 1) := by decide +kernel
theorem dX12_fewest_47 : decode cX12_fewest 47 = .ok (.getfield 9, 3) := by decide +kernel
theorem dX12_fewest_50 : decode cX12_fewest 50 = .ok (.iload_n 3, 1) := by decide +kernel
theorem dX12_fewest_51 : decode cX12_fewest 51 = .ok (.invokevirtual 261, 3) := by decide +kernel
theorem dX12_fewest_54 : decode cX12_fewest 54 = .ok (.iload_n 1, 1) := by decide +kernel
theorem dX12_fewest_55 : decode cX12_fewest 55 = .ok (.if_icmp .ne 5, 3) := by decide +kernel
theorem dX12_fewest_58 : decode cX12_fewest 58 = .ok (.iload_n 3, 1) := by decide +kernel
theorem dX12_fewest_59 : decode cX12_fewest 59 = .ok (.istore_n 2, 1) := by decide +kernel
theorem dX12_fewest_60 : decode cX12_fewest 60 = .ok (.iinc 3 1, 3) := by decide +kernel
theorem dX12_fewest_63 : decode cX12_fewest 63 = .ok (.goto (-44), 3) := by decide +kernel
theorem dX12_fewest_66 : decode cX12_fewest 66 = .ok (.iload_n 2, 1) := by decide +kernel
theorem dX12_fewest_67 : decode cX12_fewest 67 = .ok (.iconst (-1), 1) := by decide +kernel
theorem dX12_fewest_68 : decode cX12_fewest 68 = .ok (.if_icmp .ne 6, 3) := by decide +kernel
theorem dX12_fewest_71 : decode cX12_fewest 71 = .ok (.bipush (-2), 2) := by decide +kernel
theorem dX12_fewest_73 : decode cX12_fewest 73 = .ok (.ireturn, 1) := by decide +kernel
theorem dX12_fewest_74 : decode cX12_fewest 74 = .ok (.aload_n 0, 1) := by decide +kernel
theorem dX12_fewest_75 : decode cX12_fewest 75 = .ok (.iconst 0, 1) := by decide +kernel
theorem dX12_fewest_76 : decode cX12_fewest 76 = .ok (.putfield 89, 3) := by decide +kernel
theorem dX12_fewest_79 : decode cX12_fewest 79 = .ok (.aload_n 0, 1) := by decide +kernel
theorem dX12_fewest_80 : decode cX12_fewest 80 = .ok (.iload_n 2, 1) := by decide +kernel
theorem dX12_fewest_81 : decode cX12_fewest 81 = .ok (.i2l, 1) := by decide +kernel
theorem dX12_fewest_82 : decode cX12_fewest 82 = .ok (.invokevirtual 280, 3) := by decide +kernel
theorem dX12_fewest_85 : decode cX12_fewest 85 = .ok (.iload_n 2, 1) := by decide +kernel
theorem dX12_fewest_86 : decode cX12_fewest 86 = .ok (.invokestatic 196, 3) := by decide +kernel
theorem dX12_fewest_89 : decode cX12_fewest 89 = .ok (.ireturn, 1) := by decide +kernel
def fX12_fewest_L19 (x1 : Int32) : Nat → Int32 → Int32 → zM → Option (Int32 × zM)
  | 0, _, _, _ => none
  | n + 1, x2, x3, M => if 256 ≤ x3 then (
    some (x2, M))
    else (
    (if x2 = (-1) then (
    (fX12_gotBy 37 x3 M).bind fun (q : Int32 × zM) => zp q fun r3 M51 =>
    if r3 = x1 then (
    some (x3, M51))
    else (
    some (x2, M51)))
    else (
    if (fJ6_bitCount_0f7a4 x3) < (fJ6_bitCount_0f7a4 x2) then (
    (fX12_gotBy 37 x3 M).bind fun (q : Int32 × zM) => zp q fun r6 M51 =>
    if r6 = x1 then (
    some (x3, M51))
    else (
    some (x2, M51)))
    else (
    some (x2, M))) : Option (Int32 × zM)).bind fun (q : Int32 × zM) => zp q fun x2_60 M_60 =>
    fX12_fewest_L19 x1 n x2_60 (x3 + 1) M_60)
def fX12_fewest (x1 : Int32) (M : zM) : Option (Int32 × zM) := zlet (zSI M 36 12 0) fun (M2 : zM) =>
  if (fX12_isThing x1 M2) = 0 then (
  some ((-1), M2))
  else (
  (fX12_fewest_L19 x1 4000 (-1) 0 M2).bind fun (q : Int32 × zM) => zp q fun x2_66 M_66 =>
  if x2_66 = (-1) then (
  some ((-2), M_66))
  else (
  zlet (zSI M_66 36 11 0) fun (M76 : zM) =>
  (fX12_tell x2_66.toInt64 M76).bind fun (M82 : zM) =>
  some (fJ6_bitCount_0f7a4 x2_66, M82)))
set_option maxHeartbeats 4000000 in
theorem lX12_fewest_19 {E : zE} {Γ : zT} {d : Nat} {K1 : (Int32 × zM) → Prop} (hC : Cx E Γ RX12 cX12_fewest 4 d) (hd : 107 ≤ d) (x1 : Int32) (hx : ∀ (x2_66 : Int32) (M_66 : zM), K1 (x2_66, M_66) → G E Γ 4 66 [(0, .ref 36), (2, .int x2_66)] [] M_66) :
    ∀ (n : Nat) (x2 : Int32) (x3 : Int32) (M : zM), wpO (fX12_fewest_L19 x1 n x2 x3 M) K1 → G E Γ 4 19 [(0, .ref 36), (1, .int x1), (2, .int x2), (3, .int x3)] [] M := by
  intro n
  induction n with
  | zero =>
    intro x2 x3 M h
    exact (wpO_0 h).elim
  | succ n ih =>
    intro x2 x3 M h
    rw [fX12_fewest_L19.eq_2] at h
    refine g_iload_n (i := 3) (x := x3) hC (dX12_fewest_19) rfl rfl ?_
    refine g_sipush (v := 256) hC (dX12_fewest_20) ks_256 ?_
    refine g_icmp_ge (tgt := 66) hC (dX12_fewest_23) (by decide) (fun c23 => ?_) (fun c23 => ?_)
    · have h := wpO_t c23 h
      refine g_sub (lv' := [(0, .ref 36), (2, .int x2)]) [0, 2] rfl ?_
      exact hx _ _ (wpO_s h)
    · have h := wpO_f c23 h
      refine g_iload_n (i := 2) (x := x2) hC (dX12_fewest_26) rfl rfl ?_
      refine g_iconst (v := (-1)) hC (dX12_fewest_27) kc_m1 ?_
      refine wpO_bJ h (fun KJ2 hKJ2 h => ?_)
      have hJ2 : ∀ (x2_60 : Int32) (M_60 : zM), KJ2 (x2_60, M_60) → G E Γ 4 60 [(0, .ref 36), (1, .int x1), (2, .int x2_60), (3, .int x3)] [] M_60 := by
        intro x2_60 M_60 h
        have h := hKJ2 _ h
        have h := wpO_p h
        refine g_iinc (x := x3) (v := (x3 + 1)) (lv2 := [(3, .int (x3 + 1)), (0, .ref 36), (1, .int x1), (2, .int x2_60)]) hC (dX12_fewest_60) rfl rfl (by decide) rfl ?_
        refine g_goto (tgt := 19) hC (dX12_fewest_63) (by decide) ?_
        refine g_sub (lv' := [(0, .ref 36), (1, .int x1), (2, .int x2_60), (3, .int (x3 + 1))]) [1, 2, 3, 0] rfl ?_
        exact ih _ _ _ h
      refine g_icmp_eq (tgt := 45) hC (dX12_fewest_28) (by decide) (fun c28 => ?_) (fun c28 => ?_)
      · have h := wpO_t c28 h
        refine g_aload_n (i := 0) (x := 36) hC (dX12_fewest_45) rfl rfl ?_
        refine g_aload_n (i := 0) (x := 36) hC (dX12_fewest_46) rfl rfl ?_
        refine g_getR (r := 37) hC flX12_9 (dX12_fewest_47) rfl rfl rfl ?_
        refine g_iload_n (i := 3) (x := x3) hC (dX12_fewest_50) rfl rfl ?_
        have h := wpO_b h
        refine g_callVi ([.ref 37, .int x3]) hC wvX12_261 (dX12_fewest_51) rfl rfl (by omega) (Nat.le_of_ble_eq_true rfl) (cX12_gotBy_ok (by omega) 37 x3 M h) (fun r3 M51 h => ?_)
        have h := wpO_p h
        refine g_iload_n (i := 1) (x := x1) hC (dX12_fewest_54) rfl rfl ?_
        refine g_icmp_ne (tgt := 60) hC (dX12_fewest_55) (by decide) (fun c55 => ?_) (fun c55 => ?_)
        · have h := wpO_f c55 h
          exact hJ2 _ _ (wpO_s h)
        · have h := wpO_t c55 h
          refine g_iload_n (i := 3) (x := x3) hC (dX12_fewest_58) rfl rfl ?_
          refine g_istore_n (i := 2) (lv2 := [(2, .int x3), (0, .ref 36), (1, .int x1), (3, .int x3)]) hC (dX12_fewest_59) rfl (by decide) rfl ?_
          refine g_sub (lv' := [(0, .ref 36), (1, .int x1), (2, .int x3), (3, .int x3)]) [1, 2, 0, 3] rfl ?_
          exact hJ2 _ _ (wpO_s h)
      · have h := wpO_f c28 h
        refine g_iload_n (i := 3) (x := x3) hC (dX12_fewest_31) rfl rfl ?_
        refine g_callSi ([.int x3]) hC wsX12_196 (dX12_fewest_32) rfl (by omega) (Nat.le_of_ble_eq_true rfl) (cJ6_bitCount_0f7a4_ok (by omega) x3 M (K := fun r => r = fJ6_bitCount_0f7a4 x3) rfl) (fun r N q => ?_)
        obtain ⟨rfl, rfl⟩ := q
        refine g_iload_n (i := 2) (x := x2) hC (dX12_fewest_35) rfl rfl ?_
        refine g_callSi ([.int x2]) hC wsX12_196 (dX12_fewest_36) rfl (by omega) (Nat.le_of_ble_eq_true rfl) (cJ6_bitCount_0f7a4_ok (by omega) x2 M (K := fun r => r = fJ6_bitCount_0f7a4 x2) rfl) (fun r N q => ?_)
        obtain ⟨rfl, rfl⟩ := q
        refine g_icmp_lt (tgt := 45) hC (dX12_fewest_39) (by decide) (fun c39 => ?_) (fun c39 => ?_)
        · have h := wpO_t c39 h
          refine g_aload_n (i := 0) (x := 36) hC (dX12_fewest_45) rfl rfl ?_
          refine g_aload_n (i := 0) (x := 36) hC (dX12_fewest_46) rfl rfl ?_
          refine g_getR (r := 37) hC flX12_9 (dX12_fewest_47) rfl rfl rfl ?_
          refine g_iload_n (i := 3) (x := x3) hC (dX12_fewest_50) rfl rfl ?_
          have h := wpO_b h
          refine g_callVi ([.ref 37, .int x3]) hC wvX12_261 (dX12_fewest_51) rfl rfl (by omega) (Nat.le_of_ble_eq_true rfl) (cX12_gotBy_ok (by omega) 37 x3 M h) (fun r6 M51 h => ?_)
          have h := wpO_p h
          refine g_iload_n (i := 1) (x := x1) hC (dX12_fewest_54) rfl rfl ?_
          refine g_icmp_ne (tgt := 60) hC (dX12_fewest_55) (by decide) (fun c55 => ?_) (fun c55 => ?_)
          · have h := wpO_f c55 h
            exact hJ2 _ _ (wpO_s h)
          · have h := wpO_t c55 h
            refine g_iload_n (i := 3) (x := x3) hC (dX12_fewest_58) rfl rfl ?_
            refine g_istore_n (i := 2) (lv2 := [(2, .int x3), (0, .ref 36), (1, .int x1), (3, .int x3)]) hC (dX12_fewest_59) rfl (by decide) rfl ?_
            refine g_sub (lv' := [(0, .ref 36), (1, .int x1), (2, .int x3), (3, .int x3)]) [1, 2, 0, 3] rfl ?_
            exact hJ2 _ _ (wpO_s h)
        · have h := wpO_f c39 h
          refine g_goto (tgt := 60) hC (dX12_fewest_42) (by decide) ?_
          exact hJ2 _ _ (wpO_s h)
set_option maxHeartbeats 4000000 in
theorem cX12_fewest_ok {E : zE} {d : Nat} (hd : 107 ≤ d) (x1 : Int32) (M : zM) {K : (Int32 × zM) → Prop} (h : wpO (fX12_fewest x1 M) K) : CMi E d yX12_fewest cX12_fewest 4 (some .int) [.ref 36, .int x1] M (fun r N => K (r, N)) := by
  refine CMi.of (by decide) (Nat.le_of_ble_eq_true rfl) (fun Γ hC hr => ?_)
  have hC : Cx E Γ RX12 cX12_fewest 4 d := hC
  show G E Γ 4 0 [(0, .ref 36), (1, .int x1)] [] M
  unfold fX12_fewest at h
  refine g_aload_n (i := 0) (x := 36) hC (dX12_fewest_0) rfl rfl ?_
  refine g_iconst (v := 0) hC (dX12_fewest_1) kc_0 ?_
  refine g_putI hC fpX12_86 (dX12_fewest_2) rfl rfl rfl rfl ?_
  refine g_nmM (fun M2 e_M2 => ?_)
  have h := wpO_n e_M2 h
  refine g_aload_n (i := 0) (x := 36) hC (dX12_fewest_5) rfl rfl ?_
  refine g_iload_n (i := 1) (x := x1) hC (dX12_fewest_6) rfl rfl ?_
  refine g_callVi ([.int x1]) hC wvX12_220 (dX12_fewest_7) rfl rfl (by omega) (Nat.le_of_ble_eq_true rfl) (cX12_isThing_ok (by omega) x1 M2 (K := fun r => r = fX12_isThing x1 M2) rfl) (fun r N q => ?_)
  obtain ⟨rfl, rfl⟩ := q
  refine g_if_ne (tgt := 15) hC (dX12_fewest_10) (by decide) (fun c10 => ?_) (fun c10 => ?_)
  · have h := wpO_f c10 h
    refine g_iconst (v := (-1)) hC (dX12_fewest_15) kc_m1 ?_
    refine g_istore_n (i := 2) (lv2 := [(2, .int (-1)), (0, .ref 36), (1, .int x1)]) hC (dX12_fewest_16) rfl (by decide) rfl ?_
    refine g_iconst (v := 0) hC (dX12_fewest_17) kc_0 ?_
    refine g_istore_n (i := 3) (lv2 := [(3, .int 0), (2, .int (-1)), (0, .ref 36), (1, .int x1)]) hC (dX12_fewest_18) rfl (by decide) rfl ?_
    refine g_sub (lv' := [(0, .ref 36), (1, .int x1), (2, .int (-1)), (3, .int 0)]) [2, 3, 1, 0] rfl ?_
    refine wpO_bJ h (fun KL19 hKL19 h => ?_)
    refine lX12_fewest_19 (K1 := KL19) hC (by omega) x1 (fun x2_66 M_66 h => ?_) _ _ _ _ h
    have h := hKL19 _ h
    have h := wpO_p h
    refine g_iload_n (i := 2) (x := x2_66) hC (dX12_fewest_66) rfl rfl ?_
    refine g_iconst (v := (-1)) hC (dX12_fewest_67) kc_m1 ?_
    refine g_icmp_ne (tgt := 74) hC (dX12_fewest_68) (by decide) (fun c68 => ?_) (fun c68 => ?_)
    · have h := wpO_f c68 h
      refine g_aload_n (i := 0) (x := 36) hC (dX12_fewest_74) rfl rfl ?_
      refine g_iconst (v := 0) hC (dX12_fewest_75) kc_0 ?_
      refine g_putI hC fpX12_89 (dX12_fewest_76) rfl rfl rfl rfl ?_
      refine g_nmM (fun M76 e_M76 => ?_)
      have h := wpO_n e_M76 h
      refine g_aload_n (i := 0) (x := 36) hC (dX12_fewest_79) rfl rfl ?_
      refine g_iload_n (i := 2) (x := x2_66) hC (dX12_fewest_80) rfl rfl ?_
      refine g_i2l hC (dX12_fewest_81) ?_
      have h := wpO_b h
      refine g_callVv ([.long x2_66.toInt64]) hC wvX12_280 (dX12_fewest_82) rfl rfl (by omega) (Nat.le_of_ble_eq_true rfl) (cX12_tell_ok (by omega) x2_66.toInt64 M76 h) (fun M82 h => ?_)
      refine g_iload_n (i := 2) (x := x2_66) hC (dX12_fewest_85) rfl rfl ?_
      refine g_callSi ([.int x2_66]) hC wsX12_196 (dX12_fewest_86) rfl (by omega) (Nat.le_of_ble_eq_true rfl) (cJ6_bitCount_0f7a4_ok (by omega) x2_66 M82 (K := fun r => r = fJ6_bitCount_0f7a4 x2_66) rfl) (fun r N q => ?_)
      obtain ⟨rfl, rfl⟩ := q
      refine g_ireturn hC hr (dX12_fewest_89) ?_
      exact wpO_s h
    · have h := wpO_t c68 h
      refine g_bipush (v := (-2)) hC (dX12_fewest_71) kb_m2 ?_
      refine g_ireturn hC hr (dX12_fewest_73) ?_
      exact wpO_s h
  · have h := wpO_t c10 h
    refine g_iconst (v := (-1)) hC (dX12_fewest_13) kc_m1 ?_
    refine g_ireturn hC hr (dX12_fewest_14) ?_
    exact wpO_s h
/-! LostByStateModel.ways(I)I -/
theorem dX12_ways_0 : decode cX12_ways 0 = .ok (.aload_n 0, 1) := by decide +kernel
theorem dX12_ways_1 : decode cX12_ways 1 = .ok (.iconst 0, 1) := by decide +kernel
theorem dX12_ways_2 : decode cX12_ways 2 = .ok (.putfield 86, 3) := by decide +kernel
theorem dX12_ways_5 : decode cX12_ways 5 = .ok (.aload_n 0, 1) := by decide +kernel
theorem dX12_ways_6 : decode cX12_ways 6 = .ok (.iload_n 1, 1) := by decide +kernel
theorem dX12_ways_7 : decode cX12_ways 7 = .ok (.invokevirtual 220, 3) := by decide +kernel
theorem dX12_ways_10 : decode cX12_ways 10 = .ok (.ifCond .ne 5, 3) := by decide +kernel
theorem dX12_ways_13 : decode cX12_ways 13 = .ok (.iconst (-1), 1) := by decide +kernel
theorem dX12_ways_14 : decode cX12_ways 14 = .ok (.ireturn, 1) := by decide +kernel
theorem dX12_ways_15 : decode cX12_ways 15 = .ok (.iconst 0, 1) := by decide +kernel
theorem dX12_ways_16 : decode cX12_ways 16 = .ok (.istore_n 2, 1) := by decide +kernel
theorem dX12_ways_17 : decode cX12_ways 17 = .ok (.iconst 0, 1) := by decide +kernel
theorem dX12_ways_18 : decode cX12_ways 18 = .ok (.istore_n 3, 1) := by decide +kernel
theorem dX12_ways_19 : decode cX12_ways 19 = .ok (.iconst 0, 1) := by decide +kernel
theorem dX12_ways_20 : decode cX12_ways 20 = .ok (.istore 4, 2) := by decide +kernel
theorem dX12_ways_22 : decode cX12_ways 22 = .ok (.iload 4, 2) := by decide +kernel
theorem dX12_ways_24 : decode cX12_ways 24 = .ok (.sipush 256, 3) := by decide +kernel
theorem dX12_ways_27 : decode cX12_ways 27 = .ok (.if_icmp .ge 48, 3) := by decide +kernel
theorem dX12_ways_30 : decode cX12_ways 30 = .ok (.aload_n 0, 1) := by decide +kernel
theorem dX12_ways_31 : decode cX12_ways 31 = .ok (.aload_n 0, 1) := by decide +kernel
theorem dX12_ways_32 : decode cX12_ways 32 = .ok (.getfield 9, 3) := by decide +kernel
theorem dX12_ways_35 : decode cX12_ways 35 = .ok (.iload 4, 2) := by decide +kernel
theorem dX12_ways_37 : decode cX12_ways 37 = .ok (.invokevirtual 261, 3) := by decide +kernel
theorem dX12_ways_40 : decode cX12_ways 40 = .ok (.istore 5, 2) := by decide +kernel
theorem dX12_ways_42 : decode cX12_ways 42 = .ok (.iload_n 2, 1) := by decide +kernel
theorem dX12_ways_43 : decode cX12_ways 43 = .ok (.iload 5, 2) := by decide +kernel
theorem dX12_ways_45 : decode cX12_ways 45 = .ok (.iload_n 1, 1) := by decide +kernel
theorem dX12_ways_46 : decode cX12_ways 46 = .ok (.if_icmp .ne 7, 3) := by decide +kernel
theorem dX12_ways_49 : decode cX12_ways 49 = .ok (.iconst 1, 1) := by decide +kernel
theorem dX12_ways_50 : decode cX12_ways 50 = .ok (.goto 4, 3) := by decide +kernel
theorem dX12_ways_53 : decode cX12_ways 53 = .ok (.iconst 0, 1) := by decide +kernel
theorem dX12_ways_54 : decode cX12_ways 54 = .ok (.iadd, 1) := by decide +kernel
theorem dX12_ways_55 : decode cX12_ways 55 = .ok (.istore_n 2, 1) := by decide +kernel
theorem dX12_ways_56 : decode cX12_ways 56 = .ok (.iload_n 3, 1) := by decide +kernel
theorem dX12_ways_57 : decode cX12_ways 57 = .ok (.iload 5, 2) := by decide +kernel
theorem dX12_ways_59 : decode cX12_ways 59 = .ok (.ifCond .ge 7, 3) := by decide +kernel
theorem dX12_ways_62 : decode cX12_ways 62 = .ok (.iconst 1, 1) := by decide +kernel
theorem dX12_ways_63 : decode cX12_ways 63 = .ok (.goto 4, 3) := by decide +kernel
theorem dX12_ways_66 : decode cX12_ways 66 = .ok (.iconst 0, 1) := by decide +kernel
theorem dX12_ways_67 : decode cX12_ways 67 = .ok (.iadd, 1) := by decide +kernel
theorem dX12_ways_68 : decode cX12_ways 68 = .ok (.istore_n 3, 1) := by decide +kernel
theorem dX12_ways_69 : decode cX12_ways 69 = .ok (.iinc 4 1, 3) := by decide +kernel
theorem dX12_ways_72 : decode cX12_ways 72 = .ok (.goto (-50), 3) := by decide +kernel
theorem dX12_ways_75 : decode cX12_ways 75 = .ok (.aload_n 0, 1) := by decide +kernel
theorem dX12_ways_76 : decode cX12_ways 76 = .ok (.iconst 0, 1) := by decide +kernel
theorem dX12_ways_77 : decode cX12_ways 77 = .ok (.putfield 89, 3) := by decide +kernel
theorem dX12_ways_80 : decode cX12_ways 80 = .ok (.aload_n 0, 1) := by decide +kernel
theorem dX12_ways_81 : decode cX12_ways 81 = .ok (.iload_n 3, 1) := by decide +kernel
theorem dX12_ways_82 : decode cX12_ways 82 = .ok (.i2l, 1) := by decide +kernel
theorem dX12_ways_83 : decode cX12_ways 83 = .ok (.invokevirtual 280, 3) := by decide +kernel
theorem dX12_ways_86 : decode cX12_ways 86 = .ok (.iload_n 2, 1) := by decide +kernel
theorem dX12_ways_87 : decode cX12_ways 87 = .ok (.ireturn, 1) := by decide +kernel
def fX12_ways_L22 (x1 : Int32) : Nat → Int32 → Int32 → Int32 → zM → Option (Int32 × Int32 × zM)
  | 0, _, _, _, _ => none
  | n + 1, x2, x3, x4, M => if 256 ≤ x4 then (
    some (x2, x3, M))
    else (
    (fX12_gotBy 37 x4 M).bind fun (q : Int32 × zM) => zp q fun r2 M37 =>
    zlet (if r2 = x1 then (
    1)
    else (
    0)) fun (s0_54 : Int32) =>
    zlet (x2 + s0_54) fun (x2_55 : Int32) =>
    zlet (if 0 ≤ r2 then (
    0)
    else (
    1)) fun (s0_67 : Int32) =>
    zlet (x3 + s0_67) fun (x3_68 : Int32) =>
    fX12_ways_L22 x1 n x2_55 x3_68 (x4 + 1) M37)
def fX12_ways (x1 : Int32) (M : zM) : Option (Int32 × zM) := zlet (zSI M 36 12 0) fun (M2 : zM) =>
  if (fX12_isThing x1 M2) = 0 then (
  some ((-1), M2))
  else (
  (fX12_ways_L22 x1 4000 0 0 0 M2).bind fun (q : Int32 × Int32 × zM) => zp q fun x2_75 q => zp q fun x3_75 M_75 =>
  zlet (zSI M_75 36 11 0) fun (M77 : zM) =>
  (fX12_tell x3_75.toInt64 M77).bind fun (M83 : zM) =>
  some (x2_75, M83))
set_option maxHeartbeats 4000000 in
theorem lX12_ways_22 {E : zE} {Γ : zT} {d : Nat} {K1 : (Int32 × Int32 × zM) → Prop} (hC : Cx E Γ RX12 cX12_ways 6 d) (hd : 107 ≤ d) (x1 : Int32) (hx : ∀ (x2_75 : Int32) (x3_75 : Int32) (M_75 : zM), K1 (x2_75, x3_75, M_75) → G E Γ 6 75 [(0, .ref 36), (2, .int x2_75), (3, .int x3_75)] [] M_75) :
    ∀ (n : Nat) (x2 : Int32) (x3 : Int32) (x4 : Int32) (M : zM), wpO (fX12_ways_L22 x1 n x2 x3 x4 M) K1 → G E Γ 6 22 [(0, .ref 36), (1, .int x1), (2, .int x2), (3, .int x3), (4, .int x4)] [] M := by
  intro n
  induction n with
  | zero =>
    intro x2 x3 x4 M h
    exact (wpO_0 h).elim
  | succ n ih =>
    intro x2 x3 x4 M h
    rw [fX12_ways_L22.eq_2] at h
    refine g_iload (i := 4) (x := x4) hC (dX12_ways_22) rfl ?_
    refine g_sipush (v := 256) hC (dX12_ways_24) ks_256 ?_
    refine g_icmp_ge (tgt := 75) hC (dX12_ways_27) (by decide) (fun c27 => ?_) (fun c27 => ?_)
    · have h := wpO_t c27 h
      refine g_sub (lv' := [(0, .ref 36), (2, .int x2), (3, .int x3)]) [0, 2, 3] rfl ?_
      exact hx _ _ _ (wpO_s h)
    · have h := wpO_f c27 h
      refine g_aload_n (i := 0) (x := 36) hC (dX12_ways_30) rfl rfl ?_
      refine g_aload_n (i := 0) (x := 36) hC (dX12_ways_31) rfl rfl ?_
      refine g_getR (r := 37) hC flX12_9 (dX12_ways_32) rfl rfl rfl ?_
      refine g_iload (i := 4) (x := x4) hC (dX12_ways_35) rfl ?_
      have h := wpO_b h
      refine g_callVi ([.ref 37, .int x4]) hC wvX12_261 (dX12_ways_37) rfl rfl (by omega) (Nat.le_of_ble_eq_true rfl) (cX12_gotBy_ok (by omega) 37 x4 M h) (fun r2 M37 h => ?_)
      have h := wpO_p h
      refine g_istore (i := 5) (lv2 := [(5, .int r2), (0, .ref 36), (1, .int x1), (2, .int x2), (3, .int x3), (4, .int x4)]) hC (dX12_ways_40) (by decide) rfl ?_
      refine g_iload_n (i := 2) (x := x2) hC (dX12_ways_42) rfl rfl ?_
      refine g_iload (i := 5) (x := r2) hC (dX12_ways_43) rfl ?_
      refine g_iload_n (i := 1) (x := x1) hC (dX12_ways_45) rfl rfl ?_
      obtain ⟨s0_54, e_s0_54, h⟩ := wpO_l h
      have hJ3 : G E Γ 6 54 [(0, .ref 36), (1, .int x1), (3, .int x3), (4, .int x4), (5, .int r2)] [.int s0_54, .int x2] M37 := by
        refine g_iadd hC (dX12_ways_54) ?_
        refine g_nmi (fun x2_55 e_x2_55 => ?_)
        have h := wpO_n e_x2_55 h
        refine g_istore_n (i := 2) (lv2 := [(2, .int x2_55), (0, .ref 36), (1, .int x1), (3, .int x3), (4, .int x4), (5, .int r2)]) hC (dX12_ways_55) rfl (by decide) rfl ?_
        refine g_iload_n (i := 3) (x := x3) hC (dX12_ways_56) rfl rfl ?_
        refine g_iload (i := 5) (x := r2) hC (dX12_ways_57) rfl ?_
        obtain ⟨s0_67, e_s0_67, h⟩ := wpO_l h
        have hJ4 : G E Γ 6 67 [(0, .ref 36), (1, .int x1), (2, .int x2_55), (4, .int x4)] [.int s0_67, .int x3] M37 := by
          refine g_iadd hC (dX12_ways_67) ?_
          refine g_nmi (fun x3_68 e_x3_68 => ?_)
          have h := wpO_n e_x3_68 h
          refine g_istore_n (i := 3) (lv2 := [(3, .int x3_68), (0, .ref 36), (1, .int x1), (2, .int x2_55), (4, .int x4)]) hC (dX12_ways_68) rfl (by decide) rfl ?_
          refine g_iinc (x := x4) (v := (x4 + 1)) (lv2 := [(4, .int (x4 + 1)), (3, .int x3_68), (0, .ref 36), (1, .int x1), (2, .int x2_55)]) hC (dX12_ways_69) rfl rfl (by decide) rfl ?_
          refine g_goto (tgt := 22) hC (dX12_ways_72) (by decide) ?_
          refine g_sub (lv' := [(0, .ref 36), (1, .int x1), (2, .int x2_55), (3, .int x3_68), (4, .int (x4 + 1))]) [2, 3, 4, 1, 0] rfl ?_
          exact ih _ _ _ _ h
        refine g_if_ge (tgt := 66) hC (dX12_ways_59) (by decide) (fun c59 => ?_) (fun c59 => ?_)
        · rw [if_pos c59] at e_s0_67
          refine g_iconst (v := 0) hC (dX12_ways_66) kc_0 ?_
          refine g_sub (lv' := [(0, .ref 36), (1, .int x1), (2, .int x2_55), (4, .int x4)]) [1, 2, 0, 4] rfl ?_
          subst e_s0_67
          exact hJ4
        · rw [if_neg c59] at e_s0_67
          refine g_iconst (v := 1) hC (dX12_ways_62) kc_1 ?_
          refine g_goto (tgt := 67) hC (dX12_ways_63) (by decide) ?_
          refine g_sub (lv' := [(0, .ref 36), (1, .int x1), (2, .int x2_55), (4, .int x4)]) [1, 2, 0, 4] rfl ?_
          subst e_s0_67
          exact hJ4
      refine g_icmp_ne (tgt := 53) hC (dX12_ways_46) (by decide) (fun c46 => ?_) (fun c46 => ?_)
      · rw [if_neg c46] at e_s0_54
        refine g_iconst (v := 0) hC (dX12_ways_53) kc_0 ?_
        refine g_sub (lv' := [(0, .ref 36), (1, .int x1), (3, .int x3), (4, .int x4), (5, .int r2)]) [1, 2, 4, 5, 0] rfl ?_
        subst e_s0_54
        exact hJ3
      · rw [if_pos c46] at e_s0_54
        refine g_iconst (v := 1) hC (dX12_ways_49) kc_1 ?_
        refine g_goto (tgt := 54) hC (dX12_ways_50) (by decide) ?_
        refine g_sub (lv' := [(0, .ref 36), (1, .int x1), (3, .int x3), (4, .int x4), (5, .int r2)]) [1, 2, 4, 5, 0] rfl ?_
        subst e_s0_54
        exact hJ3
set_option maxHeartbeats 4000000 in
theorem cX12_ways_ok {E : zE} {d : Nat} (hd : 107 ≤ d) (x1 : Int32) (M : zM) {K : (Int32 × zM) → Prop} (h : wpO (fX12_ways x1 M) K) : CMi E d yX12_ways cX12_ways 6 (some .int) [.ref 36, .int x1] M (fun r N => K (r, N)) := by
  refine CMi.of (by decide) (Nat.le_of_ble_eq_true rfl) (fun Γ hC hr => ?_)
  have hC : Cx E Γ RX12 cX12_ways 6 d := hC
  show G E Γ 6 0 [(0, .ref 36), (1, .int x1)] [] M
  unfold fX12_ways at h
  refine g_aload_n (i := 0) (x := 36) hC (dX12_ways_0) rfl rfl ?_
  refine g_iconst (v := 0) hC (dX12_ways_1) kc_0 ?_
  refine g_putI hC fpX12_86 (dX12_ways_2) rfl rfl rfl rfl ?_
  refine g_nmM (fun M2 e_M2 => ?_)
  have h := wpO_n e_M2 h
  refine g_aload_n (i := 0) (x := 36) hC (dX12_ways_5) rfl rfl ?_
  refine g_iload_n (i := 1) (x := x1) hC (dX12_ways_6) rfl rfl ?_
  refine g_callVi ([.int x1]) hC wvX12_220 (dX12_ways_7) rfl rfl (by omega) (Nat.le_of_ble_eq_true rfl) (cX12_isThing_ok (by omega) x1 M2 (K := fun r => r = fX12_isThing x1 M2) rfl) (fun r N q => ?_)
  obtain ⟨rfl, rfl⟩ := q
  refine g_if_ne (tgt := 15) hC (dX12_ways_10) (by decide) (fun c10 => ?_) (fun c10 => ?_)
  · have h := wpO_f c10 h
    refine g_iconst (v := 0) hC (dX12_ways_15) kc_0 ?_
    refine g_istore_n (i := 2) (lv2 := [(2, .int 0), (0, .ref 36), (1, .int x1)]) hC (dX12_ways_16) rfl (by decide) rfl ?_
    refine g_iconst (v := 0) hC (dX12_ways_17) kc_0 ?_
    refine g_istore_n (i := 3) (lv2 := [(3, .int 0), (2, .int 0), (0, .ref 36), (1, .int x1)]) hC (dX12_ways_18) rfl (by decide) rfl ?_
    refine g_iconst (v := 0) hC (dX12_ways_19) kc_0 ?_
    refine g_istore (i := 4) (lv2 := [(4, .int 0), (3, .int 0), (2, .int 0), (0, .ref 36), (1, .int x1)]) hC (dX12_ways_20) (by decide) rfl ?_
    refine g_sub (lv' := [(0, .ref 36), (1, .int x1), (2, .int 0), (3, .int 0), (4, .int 0)]) [3, 4, 2, 1, 0] rfl ?_
    refine wpO_bJ h (fun KL22 hKL22 h => ?_)
    refine lX12_ways_22 (K1 := KL22) hC (by omega) x1 (fun x2_75 x3_75 M_75 h => ?_) _ _ _ _ _ h
    have h := hKL22 _ h
    have h := wpO_p h
    have h := wpO_p h
    refine g_aload_n (i := 0) (x := 36) hC (dX12_ways_75) rfl rfl ?_
    refine g_iconst (v := 0) hC (dX12_ways_76) kc_0 ?_
    refine g_putI hC fpX12_89 (dX12_ways_77) rfl rfl rfl rfl ?_
    refine g_nmM (fun M77 e_M77 => ?_)
    have h := wpO_n e_M77 h
    refine g_aload_n (i := 0) (x := 36) hC (dX12_ways_80) rfl rfl ?_
    refine g_iload_n (i := 3) (x := x3_75) hC (dX12_ways_81) rfl rfl ?_
    refine g_i2l hC (dX12_ways_82) ?_
    have h := wpO_b h
    refine g_callVv ([.long x3_75.toInt64]) hC wvX12_280 (dX12_ways_83) rfl rfl (by omega) (Nat.le_of_ble_eq_true rfl) (cX12_tell_ok (by omega) x3_75.toInt64 M77 h) (fun M83 h => ?_)
    refine g_iload_n (i := 2) (x := x2_75) hC (dX12_ways_86) rfl rfl ?_
    refine g_ireturn hC hr (dX12_ways_87) ?_
    exact wpO_s h
  · have h := wpO_t c10 h
    refine g_iconst (v := (-1)) hC (dX12_ways_13) kc_m1 ?_
    refine g_ireturn hC hr (dX12_ways_14) ?_
    exact wpO_s h
