/-! LostByStateModel.law()I -/
theorem dX12_law_0 : decode cX12_law 0 = .ok (.aload_n 0, 1) := by decide +kernel
theorem dX12_law_1 : decode cX12_law 1 = .ok (.iconst 0, 1) := by decide +kernel
theorem dX12_law_2 : decode cX12_law 2 = .ok (.putfield 86, 3) := by decide +kernel
theorem dX12_law_5 : decode cX12_law 5 = .ok (.aload_n 0, 1) := by decide +kernel
theorem dX12_law_6 : decode cX12_law 6 = .ok (.getfield 102, 3) := by decide +kernel
theorem dX12_law_9 : decode cX12_law 9 = .ok (.istore_n 1, 1) := by decide +kernel
theorem dX12_law_10 : decode cX12_law 10 = .ok (.aload_n 0, 1) := by decide +kernel
theorem dX12_law_11 : decode cX12_law 11 = .ok (.invokevirtual 190, 3) := by decide +kernel
theorem dX12_law_14 : decode cX12_law 14 = .ok (.ifCond .ne 12, 3) := by decide +kernel
theorem dX12_law_17 : decode cX12_law 17 = .ok (.sipush (-10000), 3) := by decide +kernel
theorem dX12_law_20 : decode cX12_law 20 = .ok (.aload_n 0, 1) := by decide +kernel
theorem dX12_law_21 : decode cX12_law 21 = .ok (.getfield 117, 3) := by decide +kernel
theorem dX12_law_24 : decode cX12_law 24 = .ok (.isub, 1) := by decide +kernel
theorem dX12_law_25 : decode cX12_law 25 = .ok (.ireturn, 1) := by decide +kernel
theorem dX12_law_26 : decode cX12_law 26 = .ok (.aload_n 0, 1) := by decide +kernel
theorem dX12_law_27 : decode cX12_law 27 = .ok (.invokevirtual 353, 3) := by decide +kernel
theorem dX12_law_30 : decode cX12_law 30 = .ok (.istore_n 2, 1) := by decide +kernel
theorem dX12_law_31 : decode cX12_law 31 = .ok (.aload_n 0, 1) := by decide +kernel
theorem dX12_law_32 : decode cX12_law 32 = .ok (.getfield 40, 3) := by decide +kernel
theorem dX12_law_35 : decode cX12_law 35 = .ok (.astore_n 3, 1) := by decide +kernel
theorem dX12_law_36 : decode cX12_law 36 = .ok (.aload_n 0, 1) := by decide +kernel
theorem dX12_law_37 : decode cX12_law 37 = .ok (.getfield 193, 3) := by decide +kernel
theorem dX12_law_40 : decode cX12_law 40 = .ok (.istore 4, 2) := by decide +kernel
theorem dX12_law_42 : decode cX12_law 42 = .ok (.aload_n 0, 1) := by decide +kernel
theorem dX12_law_43 : decode cX12_law 43 = .ok (.aload_n 0, 1) := by decide +kernel
theorem dX12_law_44 : decode cX12_law 44 = .ok (.getfield 43, 3) := by decide +kernel
theorem dX12_law_47 : decode cX12_law 47 = .ok (.putfield 40, 3) := by decide +kernel
theorem dX12_law_50 : decode cX12_law 50 = .ok (.aload_n 0, 1) := by decide +kernel
theorem dX12_law_51 : decode cX12_law 51 = .ok (.iload_n 1, 1) := by decide +kernel
theorem dX12_law_52 : decode cX12_law 52 = .ok (.putfield 193, 3) := by decide +kernel
theorem dX12_law_55 : decode cX12_law 55 = .ok (.iconst 0, 1) := by decide +kernel
theorem dX12_law_56 : decode cX12_law 56 = .ok (.istore 5, 2) := by decide +kernel
theorem dX12_law_58 : decode cX12_law 58 = .ok (.iload 5, 2) := by decide +kernel
theorem dX12_law_60 : decode cX12_law 60 = .ok (.iload_n 1, 1) := by decide +kernel
theorem dX12_law_61 : decode cX12_law 61 = .ok (.if_icmp .ge 23, 3) := by decide +kernel
theorem dX12_law_64 : decode cX12_law 64 = .ok (.aload_n 0, 1) := by decide +kernel
theorem dX12_law_65 : decode cX12_law 65 = .ok (.getfield 40, 3) := by decide +kernel
theorem dX12_law_68 : decode cX12_law 68 = .ok (.iload 5, 2) := by decide +kernel
theorem dX12_law_70 : decode cX12_law 70 = .ok (.aload_n 0, 1) := by decide +kernel
theorem dX12_law_71 : decode cX12_law 71 = .ok (.getfield 29, 3) := by decide +kernel
theorem dX12_law_74 : decode cX12_law 74 = .ok (.iload 5, 2) := by decide +kernel
theorem dX12_law_76 : decode cX12_law 76 = .ok (.baload, 1) := by decide +kernel
theorem dX12_law_77 : decode cX12_law 77 = .ok (.bastore, 1) := by decide +kernel
theorem dX12_law_78 : decode cX12_law 78 = .ok (.iinc 5 1, 3) := by decide +kernel
theorem dX12_law_81 : decode cX12_law 81 = .ok (.goto (-23), 3) := by decide +kernel
theorem dX12_law_84 : decode cX12_law 84 = .ok (.aload_n 0, 1) := by decide +kernel
theorem dX12_law_85 : decode cX12_law 85 = .ok (.invokevirtual 353, 3) := by decide +kernel
theorem dX12_law_88 : decode cX12_law 88 = .ok (.istore 5, 2) := by decide +kernel
theorem dX12_law_90 : decode cX12_law 90 = .ok (.aload_n 0, 1) := by decide +kernel
theorem dX12_law_91 : decode cX12_law 91 = .ok (.aload_n 3, 1) := by decide +kernel
theorem dX12_law_92 : decode cX12_law 92 = .ok (.putfield 40, 3) := by decide +kernel
theorem dX12_law_95 : decode cX12_law 95 = .ok (.aload_n 0, 1) := by decide +kernel
theorem dX12_law_96 : decode cX12_law 96 = .ok (.iload 4, 2) := by decide +kernel
theorem dX12_law_98 : decode cX12_law 98 = .ok (.putfield 193, 3) := by decide +kernel
theorem dX12_law_101 : decode cX12_law 101 = .ok (.aload_n 0, 1) := by decide +kernel
theorem dX12_law_102 : decode cX12_law 102 = .ok (.iconst 0, 1) := by decide +kernel
theorem dX12_law_103 : decode cX12_law 103 = .ok (.putfield 89, 3) := by decide +kernel
theorem dX12_law_106 : decode cX12_law 106 = .ok (.aload_n 0, 1) := by decide +kernel
theorem dX12_law_107 : decode cX12_law 107 = .ok (.iload 5, 2) := by decide +kernel
theorem dX12_law_109 : decode cX12_law 109 = .ok (.i2l, 1) := by decide +kernel
theorem dX12_law_110 : decode cX12_law 110 = .ok (.invokevirtual 280, 3) := by decide +kernel
theorem dX12_law_113 : decode cX12_law 113 = .ok (.aload_n 0, 1) := by decide +kernel
theorem dX12_law_114 : decode cX12_law 114 = .ok (.iload_n 2, 1) := by decide +kernel
theorem dX12_law_115 : decode cX12_law 115 = .ok (.i2l, 1) := by decide +kernel
theorem dX12_law_116 : decode cX12_law 116 = .ok (.invokevirtual 280, 3) := by decide +kernel
theorem dX12_law_119 : decode cX12_law 119 = .ok (.iload 5, 2) := by decide +kernel
theorem dX12_law_121 : decode cX12_law 121 = .ok (.iload_n 2, 1) := by decide +kernel
theorem dX12_law_122 : decode cX12_law 122 = .ok (.isub, 1) := by decide +kernel
theorem dX12_law_123 : decode cX12_law 123 = .ok (.ireturn, 1) := by decide +kernel
def fX12_law_L58 (x1 : Int32) (x2 : Int32) (x3 : Nat) (x4 : Int32) : Nat → Int32 → zM → Option zM
  | 0, _, _ => none
  | n + 1, x5, M => if x1 ≤ x5 then (
    some M)
    else (
    (M.2.2 19).bind fun (a7 : Nat) =>
    if zin x5 80 then (
    if zSH a7 = .inr (3, zLen a7) then (
    if zin x5 (zLen a7) then (
    zlet (zSI M a7 x5.toNatClampNeg (vp_nar .byte (M.1 41 x5.toNatClampNeg))) fun (M77 : zM) =>
    fX12_law_L58 x1 x2 x3 x4 n (x5 + 1) M77) else none) else none) else none)
def fX12_law  (M : zM) : Option (Int32 × zM) := zlet (zSI M 36 12 0) fun (M2 : zM) =>
  zlet (M2.1 36 9) fun (x1_9 : Int32) =>
  (fX12_readRule M2).bind fun (q : Int32 × zM) => zp q fun r1 M11 =>
  if r1 = 0 then (
  some ((-10000) - (M11.1 36 17), M11))
  else (
  (fX12_getting M11).bind fun (q : Int32 × zM) => zp q fun r2 M27 =>
  (M27.2.2 19).bind fun (a3 : Nat) =>
  zlet (M27.1 36 21) fun (x4_40 : Int32) =>
  (M27.2.2 20).bind fun (a5 : Nat) =>
  zlet (zSD M27 19 (some a5)) fun (M47 : zM) =>
  zlet (zSI M47 36 21 x1_9) fun (M52 : zM) =>
  (fX12_law_L58 x1_9 r2 a3 x4_40 4000 0 M52).bind fun (M_84 : zM) =>
  (fX12_getting M_84).bind fun (q : Int32 × zM) => zp q fun r12 M85 =>
  zlet (zSD M85 19 (some a3)) fun (M92 : zM) =>
  zlet (zSI M92 36 21 x4_40) fun (M98 : zM) =>
  zlet (zSI M98 36 11 0) fun (M103 : zM) =>
  (fX12_tell r12.toInt64 M103).bind fun (M110 : zM) =>
  (fX12_tell r2.toInt64 M110).bind fun (M116 : zM) =>
  some (r12 - r2, M116))
set_option maxHeartbeats 4000000 in
theorem lX12_law_58 {E : zE} {Γ : zT} {d : Nat} {K1 : zM → Prop} (hC : Cx E Γ RX12 cX12_law 6 d) (hd : 108 ≤ d) (x1 : Int32) (x2 : Int32) (x3 : Nat) (x4 : Int32) (hx : ∀ (M_84 : zM), K1 M_84 → G E Γ 6 84 [(0, .ref 36), (2, .int x2), (3, .ref x3), (4, .int x4)] [] M_84) :
    ∀ (n : Nat) (x5 : Int32) (M : zM), wpO (fX12_law_L58 x1 x2 x3 x4 n x5 M) K1 → G E Γ 6 58 [(0, .ref 36), (1, .int x1), (2, .int x2), (3, .ref x3), (4, .int x4), (5, .int x5)] [] M := by
  intro n
  induction n with
  | zero =>
    intro x5 M h
    exact (wpO_0 h).elim
  | succ n ih =>
    intro x5 M h
    rw [fX12_law_L58.eq_2] at h
    refine g_iload (i := 5) (x := x5) hC (dX12_law_58) rfl ?_
    refine g_iload_n (i := 1) (x := x1) hC (dX12_law_60) rfl rfl ?_
    refine g_icmp_ge (tgt := 84) hC (dX12_law_61) (by decide) (fun c61 => ?_) (fun c61 => ?_)
    · have h := wpO_t c61 h
      refine g_sub (lv' := [(0, .ref 36), (2, .int x2), (3, .ref x3), (4, .int x4)]) [0, 2, 3, 4] rfl ?_
      exact hx _ (wpO_s h)
    · have h := wpO_f c61 h
      refine g_aload_n (i := 0) (x := 36) hC (dX12_law_64) rfl rfl ?_
      obtain ⟨a7, q8, h⟩ := wpO_d h
      refine g_getD hC flX12_40 (dX12_law_65) rfl rfl q8 ?_
      refine g_iload (i := 5) (x := x5) hC (dX12_law_68) rfl ?_
      refine g_aload_n (i := 0) (x := 36) hC (dX12_law_70) rfl rfl ?_
      refine g_getR (r := 41) hC flX12_29 (dX12_law_71) rfl rfl rfl ?_
      refine g_iload (i := 5) (x := x5) hC (dX12_law_74) rfl ?_
      obtain ⟨q9, h⟩ := wpO_g h
      refine g_baload (n := 80) hC (dX12_law_76) rfl q9 ?_
      obtain ⟨q10, h⟩ := wpO_g h
      obtain ⟨q11, h⟩ := wpO_g h
      refine g_bastore (n := (zLen a7)) hC (dX12_law_77) q10 q11 ?_
      refine g_nmM (fun M77 e_M77 => ?_)
      have h := wpO_n e_M77 h
      refine g_iinc (x := x5) (v := (x5 + 1)) (lv2 := [(5, .int (x5 + 1)), (0, .ref 36), (1, .int x1), (2, .int x2), (3, .ref x3), (4, .int x4)]) hC (dX12_law_78) rfl rfl (by decide) rfl ?_
      refine g_goto (tgt := 58) hC (dX12_law_81) (by decide) ?_
      refine g_sub (lv' := [(0, .ref 36), (1, .int x1), (2, .int x2), (3, .ref x3), (4, .int x4), (5, .int (x5 + 1))]) [1, 2, 3, 4, 5, 0] rfl ?_
      exact ih _ _ h
set_option maxHeartbeats 4000000 in
theorem cX12_law_ok {E : zE} {d : Nat} (hd : 108 ≤ d)  (M : zM) {K : (Int32 × zM) → Prop} (h : wpO (fX12_law  M) K) : CMi E d yX12_law cX12_law 6 (some .int) [.ref 36] M (fun r N => K (r, N)) := by
  refine CMi.of (by decide) (Nat.le_of_ble_eq_true rfl) (fun Γ hC hr => ?_)
  have hC : Cx E Γ RX12 cX12_law 6 d := hC
  show G E Γ 6 0 [(0, .ref 36)] [] M
  unfold fX12_law at h
  refine g_aload_n (i := 0) (x := 36) hC (dX12_law_0) rfl rfl ?_
  refine g_iconst (v := 0) hC (dX12_law_1) kc_0 ?_
  refine g_putI hC fpX12_86 (dX12_law_2) rfl rfl rfl rfl ?_
  refine g_nmM (fun M2 e_M2 => ?_)
  have h := wpO_n e_M2 h
  refine g_aload_n (i := 0) (x := 36) hC (dX12_law_5) rfl rfl ?_
  refine g_getI hC flX12_102 (dX12_law_6) rfl rfl ?_
  refine g_nmi (fun x1_9 e_x1_9 => ?_)
  have h := wpO_n e_x1_9 h
  refine g_istore_n (i := 1) (lv2 := [(1, .int x1_9), (0, .ref 36)]) hC (dX12_law_9) rfl (by decide) rfl ?_
  refine g_aload_n (i := 0) (x := 36) hC (dX12_law_10) rfl rfl ?_
  have h := wpO_b h
  refine g_callVi ([]) hC wvX12_190 (dX12_law_11) rfl rfl (by omega) (Nat.le_of_ble_eq_true rfl) (cX12_readRule_ok (by omega) M2 h) (fun r1 M11 h => ?_)
  have h := wpO_p h
  refine g_if_ne (tgt := 26) hC (dX12_law_14) (by decide) (fun c14 => ?_) (fun c14 => ?_)
  · have h := wpO_f c14 h
    refine g_aload_n (i := 0) (x := 36) hC (dX12_law_26) rfl rfl ?_
    have h := wpO_b h
    refine g_callVi ([]) hC wvX12_353 (dX12_law_27) rfl rfl (by omega) (Nat.le_of_ble_eq_true rfl) (cX12_getting_ok (by omega) M11 h) (fun r2 M27 h => ?_)
    have h := wpO_p h
    refine g_istore_n (i := 2) (lv2 := [(2, .int r2), (1, .int x1_9), (0, .ref 36)]) hC (dX12_law_30) rfl (by decide) rfl ?_
    refine g_aload_n (i := 0) (x := 36) hC (dX12_law_31) rfl rfl ?_
    obtain ⟨a3, q4, h⟩ := wpO_d h
    refine g_getD hC flX12_40 (dX12_law_32) rfl rfl q4 ?_
    refine g_astore_n (i := 3) (lv2 := [(3, .ref a3), (2, .int r2), (1, .int x1_9), (0, .ref 36)]) hC (dX12_law_35) rfl (by decide) rfl ?_
    refine g_aload_n (i := 0) (x := 36) hC (dX12_law_36) rfl rfl ?_
    refine g_getI hC flX12_193 (dX12_law_37) rfl rfl ?_
    refine g_nmi (fun x4_40 e_x4_40 => ?_)
    have h := wpO_n e_x4_40 h
    refine g_istore (i := 4) (lv2 := [(4, .int x4_40), (3, .ref a3), (2, .int r2), (1, .int x1_9), (0, .ref 36)]) hC (dX12_law_40) (by decide) rfl ?_
    refine g_aload_n (i := 0) (x := 36) hC (dX12_law_42) rfl rfl ?_
    refine g_aload_n (i := 0) (x := 36) hC (dX12_law_43) rfl rfl ?_
    obtain ⟨a5, q6, h⟩ := wpO_d h
    refine g_getD hC flX12_43 (dX12_law_44) rfl rfl q6 ?_
    refine g_putD hC fpX12_40 (dX12_law_47) rfl rfl (fun _ => rfl) (fun _ => rfl) ?_
    refine g_nmM (fun M47 e_M47 => ?_)
    have h := wpO_n e_M47 h
    refine g_aload_n (i := 0) (x := 36) hC (dX12_law_50) rfl rfl ?_
    refine g_iload_n (i := 1) (x := x1_9) hC (dX12_law_51) rfl rfl ?_
    refine g_putI hC fpX12_193 (dX12_law_52) rfl rfl rfl rfl ?_
    refine g_nmM (fun M52 e_M52 => ?_)
    have h := wpO_n e_M52 h
    refine g_iconst (v := 0) hC (dX12_law_55) kc_0 ?_
    refine g_istore (i := 5) (lv2 := [(5, .int 0), (4, .int x4_40), (3, .ref a3), (2, .int r2), (1, .int x1_9), (0, .ref 36)]) hC (dX12_law_56) (by decide) rfl ?_
    refine g_sub (lv' := [(0, .ref 36), (1, .int x1_9), (2, .int r2), (3, .ref a3), (4, .int x4_40), (5, .int 0)]) [5, 4, 3, 2, 1, 0] rfl ?_
    refine wpO_bJ h (fun KL58 hKL58 h => ?_)
    refine lX12_law_58 (K1 := KL58) hC (by omega) x1_9 r2 a3 x4_40 (fun M_84 h => ?_) _ _ _ h
    have h := hKL58 _ h
    refine g_aload_n (i := 0) (x := 36) hC (dX12_law_84) rfl rfl ?_
    have h := wpO_b h
    refine g_callVi ([]) hC wvX12_353 (dX12_law_85) rfl rfl (by omega) (Nat.le_of_ble_eq_true rfl) (cX12_getting_ok (by omega) M_84 h) (fun r12 M85 h => ?_)
    have h := wpO_p h
    refine g_istore (i := 5) (lv2 := [(5, .int r12), (0, .ref 36), (2, .int r2), (3, .ref a3), (4, .int x4_40)]) hC (dX12_law_88) (by decide) rfl ?_
    refine g_aload_n (i := 0) (x := 36) hC (dX12_law_90) rfl rfl ?_
    refine g_aload_n (i := 3) (x := a3) hC (dX12_law_91) rfl rfl ?_
    refine g_putD hC fpX12_40 (dX12_law_92) rfl rfl (fun _ => rfl) (fun _ => rfl) ?_
    refine g_nmM (fun M92 e_M92 => ?_)
    have h := wpO_n e_M92 h
    refine g_aload_n (i := 0) (x := 36) hC (dX12_law_95) rfl rfl ?_
    refine g_iload (i := 4) (x := x4_40) hC (dX12_law_96) rfl ?_
    refine g_putI hC fpX12_193 (dX12_law_98) rfl rfl rfl rfl ?_
    refine g_nmM (fun M98 e_M98 => ?_)
    have h := wpO_n e_M98 h
    refine g_aload_n (i := 0) (x := 36) hC (dX12_law_101) rfl rfl ?_
    refine g_iconst (v := 0) hC (dX12_law_102) kc_0 ?_
    refine g_putI hC fpX12_89 (dX12_law_103) rfl rfl rfl rfl ?_
    refine g_nmM (fun M103 e_M103 => ?_)
    have h := wpO_n e_M103 h
    refine g_aload_n (i := 0) (x := 36) hC (dX12_law_106) rfl rfl ?_
    refine g_iload (i := 5) (x := r12) hC (dX12_law_107) rfl ?_
    refine g_i2l hC (dX12_law_109) ?_
    have h := wpO_b h
    refine g_callVv ([.long r12.toInt64]) hC wvX12_280 (dX12_law_110) rfl rfl (by omega) (Nat.le_of_ble_eq_true rfl) (cX12_tell_ok (by omega) r12.toInt64 M103 h) (fun M110 h => ?_)
    refine g_aload_n (i := 0) (x := 36) hC (dX12_law_113) rfl rfl ?_
    refine g_iload_n (i := 2) (x := r2) hC (dX12_law_114) rfl rfl ?_
    refine g_i2l hC (dX12_law_115) ?_
    have h := wpO_b h
    refine g_callVv ([.long r2.toInt64]) hC wvX12_280 (dX12_law_116) rfl rfl (by omega) (Nat.le_of_ble_eq_true rfl) (cX12_tell_ok (by omega) r2.toInt64 M110 h) (fun M116 h => ?_)
    refine g_iload (i := 5) (x := r12) hC (dX12_law_119) rfl ?_
    refine g_iload_n (i := 2) (x := r2) hC (dX12_law_121) rfl rfl ?_
    refine g_isub hC (dX12_law_122) ?_
    refine g_ireturn hC hr (dX12_law_123) ?_
    exact wpO_s h
  · have h := wpO_t c14 h
    refine g_sipush (v := (-10000)) hC (dX12_law_17) ks_m10000 ?_
    refine g_aload_n (i := 0) (x := 36) hC (dX12_law_20) rfl rfl ?_
    refine g_getI hC flX12_117 (dX12_law_21) rfl rfl ?_
    refine g_isub hC (dX12_law_24) ?_
    refine g_ireturn hC hr (dX12_law_25) ?_
    exact wpO_s h
/-! LostByStateModel.draw(I)I -/
theorem dX12_draw_0 : decode cX12_draw 0 = .ok (.aload_n 0, 1) := by decide +kernel
theorem dX12_draw_1 : decode cX12_draw 1 = .ok (.aload_n 0, 1) := by decide +kernel
theorem dX12_draw_2 : decode cX12_draw 2 = .ok (.getfield 356, 3) := by decide +kernel
theorem dX12_draw_5 : decode cX12_draw 5 = .ok (.ldc_w 359, 3) := by decide +kernel
theorem dX12_draw_8 : decode cX12_draw 8 = .ok (.imul, 1) := by decide +kernel
theorem dX12_draw_9 : decode cX12_draw 9 = .ok (.sipush 12345, 3) := by decide +kernel
theorem dX12_draw_12 : decode cX12_draw 12 = .ok (.iadd, 1) := by decide +kernel
theorem dX12_draw_13 : decode cX12_draw 13 = .ok (.putfield 356, 3) := by decide +kernel
theorem dX12_draw_16 : decode cX12_draw 16 = .ok (.aload_n 0, 1) := by decide +kernel
theorem dX12_draw_17 : decode cX12_draw 17 = .ok (.getfield 356, 3) := by decide +kernel
theorem dX12_draw_20 : decode cX12_draw 20 = .ok (.bipush 16, 2) := by decide +kernel
theorem dX12_draw_22 : decode cX12_draw 22 = .ok (.iushr, 1) := by decide +kernel
theorem dX12_draw_23 : decode cX12_draw 23 = .ok (.iload_n 1, 1) := by decide +kernel
theorem dX12_draw_24 : decode cX12_draw 24 = .ok (.irem, 1) := by decide +kernel
theorem dX12_draw_25 : decode cX12_draw 25 = .ok (.ireturn, 1) := by decide +kernel
def fX12_draw (x1 : Int32) (M : zM) : Option (Int32 × zM) := zlet (zSI M 36 36 (((M.1 36 36) * 1103515245) + 12345)) fun (M13 : zM) =>
  if ¬ x1 = 0 then (
  some (zrem (zushr (M13.1 36 36) 16) x1, M13)) else none
set_option maxHeartbeats 4000000 in
theorem cX12_draw_ok {E : zE} {d : Nat} (hd : 0 ≤ d) (x1 : Int32) (M : zM) {K : (Int32 × zM) → Prop} (h : wpO (fX12_draw x1 M) K) : CMi E d yX12_draw cX12_draw 2 (some .int) [.ref 36, .int x1] M (fun r N => K (r, N)) := by
  refine CMi.of (by decide) (Nat.le_of_ble_eq_true rfl) (fun Γ hC hr => ?_)
  have hC : Cx E Γ RX12 cX12_draw 2 d := hC
  show G E Γ 2 0 [(0, .ref 36), (1, .int x1)] [] M
  unfold fX12_draw at h
  refine g_aload_n (i := 0) (x := 36) hC (dX12_draw_0) rfl rfl ?_
  refine g_aload_n (i := 0) (x := 36) hC (dX12_draw_1) rfl rfl ?_
  refine g_getI hC flX12_356 (dX12_draw_2) rfl rfl ?_
  refine g_ldc_w (v := 1103515245) hC m_1643 (dX12_draw_5) ?_
  refine g_imul hC (dX12_draw_8) ?_
  refine g_sipush (v := 12345) hC (dX12_draw_9) ks_12345 ?_
  refine g_iadd hC (dX12_draw_12) ?_
  refine g_putI hC fpX12_356 (dX12_draw_13) rfl rfl rfl rfl ?_
  refine g_nmM (fun M13 e_M13 => ?_)
  have h := wpO_n e_M13 h
  refine g_aload_n (i := 0) (x := 36) hC (dX12_draw_16) rfl rfl ?_
  refine g_getI hC flX12_356 (dX12_draw_17) rfl rfl ?_
  refine g_bipush (v := 16) hC (dX12_draw_20) kb_16 ?_
  refine g_iushr hC (dX12_draw_22) ?_
  refine g_iload_n (i := 1) (x := x1) hC (dX12_draw_23) rfl rfl ?_
  obtain ⟨q1, h⟩ := wpO_g h
  refine g_irem hC (dX12_draw_24) q1 ?_
  refine g_ireturn hC hr (dX12_draw_25) ?_
  exact wpO_s h
/-! LostByStateModel.years(II)I -/
theorem dX12_years_0 : decode cX12_years 0 = .ok (.aload_n 0, 1) := by decide +kernel
theorem dX12_years_1 : decode cX12_years 1 = .ok (.iconst 0, 1) := by decide +kernel
theorem dX12_years_2 : decode cX12_years 2 = .ok (.putfield 86, 3) := by decide +kernel
theorem dX12_years_5 : decode cX12_years 5 = .ok (.iload_n 2, 1) := by decide +kernel
theorem dX12_years_6 : decode cX12_years 6 = .ok (.iconst 1, 1) := by decide +kernel
theorem dX12_years_7 : decode cX12_years 7 = .ok (.bipush 60, 2) := by decide +kernel
theorem dX12_years_9 : decode cX12_years 9 = .ok (.invokestatic 95, 3) := by decide +kernel
theorem dX12_years_12 : decode cX12_years 12 = .ok (.ifCond .ne 5, 3) := by decide +kernel
theorem dX12_years_15 : decode cX12_years 15 = .ok (.iconst (-1), 1) := by decide +kernel
theorem dX12_years_16 : decode cX12_years 16 = .ok (.ireturn, 1) := by decide +kernel
theorem dX12_years_17 : decode cX12_years 17 = .ok (.aload_n 0, 1) := by decide +kernel
theorem dX12_years_18 : decode cX12_years 18 = .ok (.iload_n 1, 1) := by decide +kernel
theorem dX12_years_19 : decode cX12_years 19 = .ok (.putfield 356, 3) := by decide +kernel
theorem dX12_years_22 : decode cX12_years 22 = .ok (.iconst 0, 1) := by decide +kernel
theorem dX12_years_23 : decode cX12_years 23 = .ok (.istore_n 3, 1) := by decide +kernel
theorem dX12_years_24 : decode cX12_years 24 = .ok (.aload_n 0, 1) := by decide +kernel
theorem dX12_years_25 : decode cX12_years 25 = .ok (.getfield 9, 3) := by decide +kernel
theorem dX12_years_28 : decode cX12_years 28 = .ok (.aload_n 0, 1) := by decide +kernel
theorem dX12_years_29 : decode cX12_years 29 = .ok (.getfield 55, 3) := by decide +kernel
theorem dX12_years_32 : decode cX12_years 32 = .ok (.iconst 0, 1) := by decide +kernel
theorem dX12_years_33 : decode cX12_years 33 = .ok (.invokestatic 239, 3) := by decide +kernel
theorem dX12_years_36 : decode cX12_years 36 = .ok (.iconst 0, 1) := by decide +kernel
theorem dX12_years_37 : decode cX12_years 37 = .ok (.istore 4, 2) := by decide +kernel
theorem dX12_years_39 : decode cX12_years 39 = .ok (.iload 4, 2) := by decide +kernel
theorem dX12_years_41 : decode cX12_years 41 = .ok (.iload_n 2, 1) := by decide +kernel
theorem dX12_years_42 : decode cX12_years 42 = .ok (.if_icmp .ge 192, 3) := by decide +kernel
theorem dX12_years_45 : decode cX12_years 45 = .ok (.aload_n 0, 1) := by decide +kernel
theorem dX12_years_46 : decode cX12_years 46 = .ok (.iconst 4, 1) := by decide +kernel
theorem dX12_years_47 : decode cX12_years 47 = .ok (.invokevirtual 360, 3) := by decide +kernel
theorem dX12_years_50 : decode cX12_years 50 = .ok (.istore 5, 2) := by decide +kernel
theorem dX12_years_52 : decode cX12_years 52 = .ok (.iload 5, 2) := by decide +kernel
theorem dX12_years_54 : decode cX12_years 54 = .ok (.ifCond .ne 12, 3) := by decide +kernel
theorem dX12_years_57 : decode cX12_years 57 = .ok (.aload_n 0, 1) := by decide +kernel
theorem dX12_years_58 : decode cX12_years 58 = .ok (.aload_n 0, 1) := by decide +kernel
theorem dX12_years_59 : decode cX12_years 59 = .ok (.getfield 55, 3) := by decide +kernel
theorem dX12_years_62 : decode cX12_years 62 = .ok (.invokevirtual 273, 3) := by decide +kernel
theorem dX12_years_65 : decode cX12_years 65 = .ok (.pop, 1) := by decide +kernel
theorem dX12_years_66 : decode cX12_years 66 = .ok (.iload 5, 2) := by decide +kernel
theorem dX12_years_68 : decode cX12_years 68 = .ok (.iconst 1, 1) := by decide +kernel
theorem dX12_years_69 : decode cX12_years 69 = .ok (.if_icmp .ne 55, 3) := by decide +kernel
theorem dX12_years_72 : decode cX12_years 72 = .ok (.aload_n 0, 1) := by decide +kernel
theorem dX12_years_73 : decode cX12_years 73 = .ok (.getfield 92, 3) := by decide +kernel
theorem dX12_years_76 : decode cX12_years 76 = .ok (.ifCond .le 48, 3) := by decide +kernel
theorem dX12_years_79 : decode cX12_years 79 = .ok (.aload_n 0, 1) := by decide +kernel
theorem dX12_years_80 : decode cX12_years 80 = .ok (.aload_n 0, 1) := by decide +kernel
theorem dX12_years_81 : decode cX12_years 81 = .ok (.getfield 92, 3) := by decide +kernel
theorem dX12_years_84 : decode cX12_years 84 = .ok (.invokevirtual 360, 3) := by decide +kernel
theorem dX12_years_87 : decode cX12_years 87 = .ok (.istore 6, 2) := by decide +kernel
theorem dX12_years_89 : decode cX12_years 89 = .ok (.aload_n 0, 1) := by decide +kernel
theorem dX12_years_90 : decode cX12_years 90 = .ok (.bipush 6, 2) := by decide +kernel
theorem dX12_years_92 : decode cX12_years 92 = .ok (.invokevirtual 360, 3) := by decide +kernel
theorem dX12_years_95 : decode cX12_years 95 = .ok (.istore 7, 2) := by decide +kernel
theorem dX12_years_97 : decode cX12_years 97 = .ok (.aload_n 0, 1) := by decide +kernel
theorem dX12_years_98 : decode cX12_years 98 = .ok (.aload_n 0, 1) := by decide +kernel
theorem dX12_years_99 : decode cX12_years 99 = .ok (.getfield 55, 3) := by decide +kernel
theorem dX12_years_102 : decode cX12_years 102 = .ok (.iload 6, 2) := by decide +kernel
theorem dX12_years_104 : decode cX12_years 104 = .ok (.iload 7, 2) := by decide +kernel
theorem dX12_years_106 : decode cX12_years 106 = .ok (.invokevirtual 243, 3) := by decide +kernel
theorem dX12_years_109 : decode cX12_years 109 = .ok (.ifCond .ne 15, 3) := by decide +kernel
theorem dX12_years_112 : decode cX12_years 112 = .ok (.aload_n 0, 1) := by decide +kernel
theorem dX12_years_113 : decode cX12_years 113 = .ok (.getfield 55, 3) := by decide +kernel
theorem dX12_years_116 : decode cX12_years 116 = .ok (.iload 6, 2) := by decide +kernel
theorem dX12_years_118 : decode cX12_years 118 = .ok (.iconst 1, 1) := by decide +kernel
theorem dX12_years_119 : decode cX12_years 119 = .ok (.iload 7, 2) := by decide +kernel
theorem dX12_years_121 : decode cX12_years 121 = .ok (.invokestatic 251, 3) := by decide +kernel
theorem dX12_years_124 : decode cX12_years 124 = .ok (.iload 5, 2) := by decide +kernel
theorem dX12_years_126 : decode cX12_years 126 = .ok (.iconst 2, 1) := by decide +kernel
theorem dX12_years_127 : decode cX12_years 127 = .ok (.if_icmp .ne 55, 3) := by decide +kernel
theorem dX12_years_130 : decode cX12_years 130 = .ok (.aload_n 0, 1) := by decide +kernel
theorem dX12_years_131 : decode cX12_years 131 = .ok (.getfield 92, 3) := by decide +kernel
theorem dX12_years_134 : decode cX12_years 134 = .ok (.ifCond .le 48, 3) := by decide +kernel
theorem dX12_years_137 : decode cX12_years 137 = .ok (.aload_n 0, 1) := by decide +kernel
theorem dX12_years_138 : decode cX12_years 138 = .ok (.bipush 6, 2) := by decide +kernel
theorem dX12_years_140 : decode cX12_years 140 = .ok (.invokevirtual 360, 3) := by decide +kernel
theorem dX12_years_143 : decode cX12_years 143 = .ok (.istore 6, 2) := by decide +kernel
theorem dX12_years_145 : decode cX12_years 145 = .ok (.aload_n 0, 1) := by decide +kernel
theorem dX12_years_146 : decode cX12_years 146 = .ok (.aload_n 0, 1) := by decide +kernel
theorem dX12_years_147 : decode cX12_years 147 = .ok (.getfield 92, 3) := by decide +kernel
theorem dX12_years_150 : decode cX12_years 150 = .ok (.invokevirtual 360, 3) := by decide +kernel
theorem dX12_years_153 : decode cX12_years 153 = .ok (.istore 7, 2) := by decide +kernel
theorem dX12_years_155 : decode cX12_years 155 = .ok (.aload_n 0, 1) := by decide +kernel
theorem dX12_years_156 : decode cX12_years 156 = .ok (.aload_n 0, 1) := by decide +kernel
theorem dX12_years_157 : decode cX12_years 157 = .ok (.getfield 55, 3) := by decide +kernel
theorem dX12_years_160 : decode cX12_years 160 = .ok (.iload 6, 2) := by decide +kernel
theorem dX12_years_162 : decode cX12_years 162 = .ok (.iload 7, 2) := by decide +kernel
theorem dX12_years_164 : decode cX12_years 164 = .ok (.invokevirtual 255, 3) := by decide +kernel
theorem dX12_years_167 : decode cX12_years 167 = .ok (.ifCond .ne 15, 3) := by decide +kernel
theorem dX12_years_170 : decode cX12_years 170 = .ok (.aload_n 0, 1) := by decide +kernel
theorem dX12_years_171 : decode cX12_years 171 = .ok (.getfield 55, 3) := by decide +kernel
theorem dX12_years_174 : decode cX12_years 174 = .ok (.iload 7, 2) := by decide +kernel
theorem dX12_years_176 : decode cX12_years 176 = .ok (.iconst 2, 1) := by decide +kernel
theorem dX12_years_177 : decode cX12_years 177 = .ok (.iload 6, 2) := by decide +kernel
theorem dX12_years_179 : decode cX12_years 179 = .ok (.invokestatic 251, 3) := by decide +kernel
theorem dX12_years_182 : decode cX12_years 182 = .ok (.iload 5, 2) := by decide +kernel
theorem dX12_years_184 : decode cX12_years 184 = .ok (.iconst 3, 1) := by decide +kernel
theorem dX12_years_185 : decode cX12_years 185 = .ok (.if_icmp .ne 43, 3) := by decide +kernel
theorem dX12_years_188 : decode cX12_years 188 = .ok (.aload_n 0, 1) := by decide +kernel
theorem dX12_years_189 : decode cX12_years 189 = .ok (.bipush 7, 2) := by decide +kernel
theorem dX12_years_191 : decode cX12_years 191 = .ok (.invokevirtual 360, 3) := by decide +kernel
theorem dX12_years_194 : decode cX12_years 194 = .ok (.istore 6, 2) := by decide +kernel
theorem dX12_years_196 : decode cX12_years 196 = .ok (.aload_n 0, 1) := by decide +kernel
theorem dX12_years_197 : decode cX12_years 197 = .ok (.sipush 256, 3) := by decide +kernel
theorem dX12_years_200 : decode cX12_years 200 = .ok (.invokevirtual 360, 3) := by decide +kernel
theorem dX12_years_203 : decode cX12_years 203 = .ok (.istore 7, 2) := by decide +kernel
theorem dX12_years_205 : decode cX12_years 205 = .ok (.iload_n 3, 1) := by decide +kernel
theorem dX12_years_206 : decode cX12_years 206 = .ok (.aload_n 0, 1) := by decide +kernel
theorem dX12_years_207 : decode cX12_years 207 = .ok (.aload_n 0, 1) := by decide +kernel
theorem dX12_years_208 : decode cX12_years 208 = .ok (.getfield 55, 3) := by decide +kernel
theorem dX12_years_211 : decode cX12_years 211 = .ok (.iload 6, 2) := by decide +kernel
theorem dX12_years_213 : decode cX12_years 213 = .ok (.iload 7, 2) := by decide +kernel
theorem dX12_years_215 : decode cX12_years 215 = .ok (.invokevirtual 267, 3) := by decide +kernel
theorem dX12_years_218 : decode cX12_years 218 = .ok (.ifCond .lt 7, 3) := by decide +kernel
theorem dX12_years_221 : decode cX12_years 221 = .ok (.iconst 1, 1) := by decide +kernel
theorem dX12_years_222 : decode cX12_years 222 = .ok (.goto 4, 3) := by decide +kernel
theorem dX12_years_225 : decode cX12_years 225 = .ok (.iconst 0, 1) := by decide +kernel
theorem dX12_years_226 : decode cX12_years 226 = .ok (.iadd, 1) := by decide +kernel
theorem dX12_years_227 : decode cX12_years 227 = .ok (.istore_n 3, 1) := by decide +kernel
theorem dX12_years_228 : decode cX12_years 228 = .ok (.iinc 4 1, 3) := by decide +kernel
theorem dX12_years_231 : decode cX12_years 231 = .ok (.goto (-192), 3) := by decide +kernel
theorem dX12_years_234 : decode cX12_years 234 = .ok (.aload_n 0, 1) := by decide +kernel
theorem dX12_years_235 : decode cX12_years 235 = .ok (.iconst 0, 1) := by decide +kernel
theorem dX12_years_236 : decode cX12_years 236 = .ok (.putfield 89, 3) := by decide +kernel
theorem dX12_years_239 : decode cX12_years 239 = .ok (.aload_n 0, 1) := by decide +kernel
theorem dX12_years_240 : decode cX12_years 240 = .ok (.aload_n 0, 1) := by decide +kernel
theorem dX12_years_241 : decode cX12_years 241 = .ok (.aload_n 0, 1) := by decide +kernel
theorem dX12_years_242 : decode cX12_years 242 = .ok (.getfield 55, 3) := by decide +kernel
theorem dX12_years_245 : decode cX12_years 245 = .ok (.bipush 6, 2) := by decide +kernel
theorem dX12_years_247 : decode cX12_years 247 = .ok (.invokevirtual 213, 3) := by decide +kernel
theorem dX12_years_250 : decode cX12_years 250 = .ok (.i2l, 1) := by decide +kernel
theorem dX12_years_251 : decode cX12_years 251 = .ok (.invokevirtual 280, 3) := by decide +kernel
theorem dX12_years_254 : decode cX12_years 254 = .ok (.aload_n 0, 1) := by decide +kernel
theorem dX12_years_255 : decode cX12_years 255 = .ok (.aload_n 0, 1) := by decide +kernel
theorem dX12_years_256 : decode cX12_years 256 = .ok (.aload_n 0, 1) := by decide +kernel
theorem dX12_years_257 : decode cX12_years 257 = .ok (.getfield 55, 3) := by decide +kernel
theorem dX12_years_260 : decode cX12_years 260 = .ok (.iconst 2, 1) := by decide +kernel
theorem dX12_years_261 : decode cX12_years 261 = .ok (.invokevirtual 209, 3) := by decide +kernel
theorem dX12_years_264 : decode cX12_years 264 = .ok (.i2l, 1) := by decide +kernel
theorem dX12_years_265 : decode cX12_years 265 = .ok (.invokevirtual 280, 3) := by decide +kernel
theorem dX12_years_268 : decode cX12_years 268 = .ok (.iload_n 3, 1) := by decide +kernel
theorem dX12_years_269 : decode cX12_years 269 = .ok (.ireturn, 1) := by decide +kernel
def fX12_years_L39 (x2 : Int32) : Nat → Int32 → Int32 → zM → Option (Int32 × zM)
  | 0, _, _, _ => none
  | n + 1, x3, x4, M => if x2 ≤ x4 then (
    some (x3, M))
    else (
    (fX12_draw 4 M).bind fun (q : Int32 × zM) => zp q fun r3 M47 =>
    (if r3 = 0 then (
    (fX12_goDay 49 M47).bind fun (q : Int32 × zM) => zp q fun r5 M62 =>
    some M62)
    else (
    some M47) : Option zM).bind fun (M_66 : zM) =>
    (if r3 = 1 then (
    if (M_66.1 36 1) ≤ 0 then (
    some M_66)
    else (
    (fX12_draw (M_66.1 36 1) M_66).bind fun (q : Int32 × zM) => zp q fun r7 M84 =>
    (fX12_draw 6 M84).bind fun (q : Int32 × zM) => zp q fun r8 M92 =>
    (fX12_refusesLoss 49 r7 r8 M92).bind fun (r9 : Int32) =>
    if r9 = 0 then (
    (fX12_goes 49 r7 1 r8 M92).bind fun (M121 : zM) =>
    some M121)
    else (
    some M92)))
    else (
    some M_66) : Option zM).bind fun (M_124 : zM) =>
    (if r3 = 2 then (
    if (M_124.1 36 1) ≤ 0 then (
    some M_124)
    else (
    (fX12_draw 6 M_124).bind fun (q : Int32 × zM) => zp q fun r12 M140 =>
    (fX12_draw (M140.1 36 1) M140).bind fun (q : Int32 × zM) => zp q fun r13 M150 =>
    (fX12_refusesFind 49 r12 r13 M150).bind fun (r14 : Int32) =>
    if r14 = 0 then (
    (fX12_goes 49 r13 2 r12 M150).bind fun (M179 : zM) =>
    some M179)
    else (
    some M150)))
    else (
    some M_124) : Option zM).bind fun (M_182 : zM) =>
    (if r3 = 3 then (
    (fX12_draw 7 M_182).bind fun (q : Int32 × zM) => zp q fun r17 M191 =>
    (fX12_draw 256 M191).bind fun (q : Int32 × zM) => zp q fun r18 M200 =>
    (fX12_goClaim 49 r17 r18 M200).bind fun (q : Int32 × zM) => zp q fun r19 M215 =>
    zlet (if r19 < 0 then (
    0)
    else (
    1)) fun (s0_226 : Int32) =>
    zlet (x3 + s0_226) fun (x3_227 : Int32) =>
    some (x3_227, M215))
    else (
    some (x3, M_182)) : Option (Int32 × zM)).bind fun (q : Int32 × zM) => zp q fun x3_228 M_228 =>
    fX12_years_L39 x2 n x3_228 (x4 + 1) M_228)
def fX12_years (x1 : Int32) (x2 : Int32) (M : zM) : Option (Int32 × zM) := zlet (zSI M 36 12 0) fun (M2 : zM) =>
  if (fX12_in x2 1 60) = 0 then (
  some ((-1), M2))
  else (
  zlet (zSI M2 36 36 x1) fun (M19 : zM) =>
  (fX12_lay 37 49 0 M19).bind fun (M33 : zM) =>
  (fX12_years_L39 x2 4000 0 0 M33).bind fun (q : Int32 × zM) => zp q fun x3_234 M_234 =>
  zlet (zSI M_234 36 11 0) fun (M236 : zM) =>
  (fX12_hadBy 49 6 M236).bind fun (r21 : Int32) =>
  (fX12_tell r21.toInt64 M236).bind fun (M251 : zM) =>
  (fX12_those 49 2 M251).bind fun (r23 : Int32) =>
  (fX12_tell r23.toInt64 M251).bind fun (M265 : zM) =>
  some (x3_234, M265))
set_option maxHeartbeats 4000000 in
theorem lX12_years_39 {E : zE} {Γ : zT} {d : Nat} {K1 : (Int32 × zM) → Prop} (hC : Cx E Γ RX12 cX12_years 8 d) (hd : 108 ≤ d) (x2 : Int32) (hx : ∀ (x3_234 : Int32) (M_234 : zM), K1 (x3_234, M_234) → G E Γ 8 234 [(0, .ref 36), (3, .int x3_234)] [] M_234) :
    ∀ (n : Nat) (x3 : Int32) (x4 : Int32) (M : zM), wpO (fX12_years_L39 x2 n x3 x4 M) K1 → G E Γ 8 39 [(0, .ref 36), (2, .int x2), (3, .int x3), (4, .int x4)] [] M := by
  intro n
  induction n with
  | zero =>
    intro x3 x4 M h
    exact (wpO_0 h).elim
  | succ n ih =>
    intro x3 x4 M h
    rw [fX12_years_L39.eq_2] at h
    refine g_iload (i := 4) (x := x4) hC (dX12_years_39) rfl ?_
    refine g_iload_n (i := 2) (x := x2) hC (dX12_years_41) rfl rfl ?_
    refine g_icmp_ge (tgt := 234) hC (dX12_years_42) (by decide) (fun c42 => ?_) (fun c42 => ?_)
    · have h := wpO_t c42 h
      refine g_sub (lv' := [(0, .ref 36), (3, .int x3)]) [0, 2] rfl ?_
      exact hx _ _ (wpO_s h)
    · have h := wpO_f c42 h
      refine g_aload_n (i := 0) (x := 36) hC (dX12_years_45) rfl rfl ?_
      refine g_iconst (v := 4) hC (dX12_years_46) kc_4 ?_
      have h := wpO_b h
      refine g_callVi ([.int 4]) hC wvX12_360 (dX12_years_47) rfl rfl (by omega) (Nat.le_of_ble_eq_true rfl) (cX12_draw_ok (by omega) 4 M h) (fun r3 M47 h => ?_)
      have h := wpO_p h
      refine g_istore (i := 5) (lv2 := [(5, .int r3), (0, .ref 36), (2, .int x2), (3, .int x3), (4, .int x4)]) hC (dX12_years_50) (by decide) rfl ?_
      refine g_iload (i := 5) (x := r3) hC (dX12_years_52) rfl ?_
      refine wpO_bJ h (fun KJ4 hKJ4 h => ?_)
      have hJ4 : ∀ (M_66 : zM), KJ4 M_66 → G E Γ 8 66 [(0, .ref 36), (2, .int x2), (3, .int x3), (4, .int x4), (5, .int r3)] [] M_66 := by
        intro M_66 h
        have h := hKJ4 _ h
        refine g_iload (i := 5) (x := r3) hC (dX12_years_66) rfl ?_
        refine g_iconst (v := 1) hC (dX12_years_68) kc_1 ?_
        refine wpO_bJ h (fun KJ6 hKJ6 h => ?_)
        have hJ6 : ∀ (M_124 : zM), KJ6 M_124 → G E Γ 8 124 [(0, .ref 36), (2, .int x2), (3, .int x3), (4, .int x4), (5, .int r3)] [] M_124 := by
          intro M_124 h
          have h := hKJ6 _ h
          refine g_iload (i := 5) (x := r3) hC (dX12_years_124) rfl ?_
          refine g_iconst (v := 2) hC (dX12_years_126) kc_2 ?_
          refine wpO_bJ h (fun KJ11 hKJ11 h => ?_)
          have hJ11 : ∀ (M_182 : zM), KJ11 M_182 → G E Γ 8 182 [(0, .ref 36), (2, .int x2), (3, .int x3), (4, .int x4), (5, .int r3)] [] M_182 := by
            intro M_182 h
            have h := hKJ11 _ h
            refine g_iload (i := 5) (x := r3) hC (dX12_years_182) rfl ?_
            refine g_iconst (v := 3) hC (dX12_years_184) kc_3 ?_
            refine wpO_bJ h (fun KJ16 hKJ16 h => ?_)
            have hJ16 : ∀ (x3_228 : Int32) (M_228 : zM), KJ16 (x3_228, M_228) → G E Γ 8 228 [(0, .ref 36), (2, .int x2), (3, .int x3_228), (4, .int x4)] [] M_228 := by
              intro x3_228 M_228 h
              have h := hKJ16 _ h
              have h := wpO_p h
              refine g_iinc (x := x4) (v := (x4 + 1)) (lv2 := [(4, .int (x4 + 1)), (0, .ref 36), (2, .int x2), (3, .int x3_228)]) hC (dX12_years_228) rfl rfl (by decide) rfl ?_
              refine g_goto (tgt := 39) hC (dX12_years_231) (by decide) ?_
              refine g_sub (lv' := [(0, .ref 36), (2, .int x2), (3, .int x3_228), (4, .int (x4 + 1))]) [1, 2, 3, 0] rfl ?_
              exact ih _ _ _ h
            refine g_icmp_ne (tgt := 228) hC (dX12_years_185) (by decide) (fun c185 => ?_) (fun c185 => ?_)
            · have h := wpO_f c185 h
              refine g_sub (lv' := [(0, .ref 36), (2, .int x2), (3, .int x3), (4, .int x4)]) [0, 1, 2, 3] rfl ?_
              exact hJ16 _ _ (wpO_s h)
            · have h := wpO_t c185 h
              refine g_aload_n (i := 0) (x := 36) hC (dX12_years_188) rfl rfl ?_
              refine g_bipush (v := 7) hC (dX12_years_189) kb_7 ?_
              have h := wpO_b h
              refine g_callVi ([.int 7]) hC wvX12_360 (dX12_years_191) rfl rfl (by omega) (Nat.le_of_ble_eq_true rfl) (cX12_draw_ok (by omega) 7 M_182 h) (fun r17 M191 h => ?_)
              have h := wpO_p h
              refine g_istore (i := 6) (lv2 := [(6, .int r17), (0, .ref 36), (2, .int x2), (3, .int x3), (4, .int x4), (5, .int r3)]) hC (dX12_years_194) (by decide) rfl ?_
              refine g_aload_n (i := 0) (x := 36) hC (dX12_years_196) rfl rfl ?_
              refine g_sipush (v := 256) hC (dX12_years_197) ks_256 ?_
              have h := wpO_b h
              refine g_callVi ([.int 256]) hC wvX12_360 (dX12_years_200) rfl rfl (by omega) (Nat.le_of_ble_eq_true rfl) (cX12_draw_ok (by omega) 256 M191 h) (fun r18 M200 h => ?_)
              have h := wpO_p h
              refine g_istore (i := 7) (lv2 := [(7, .int r18), (6, .int r17), (0, .ref 36), (2, .int x2), (3, .int x3), (4, .int x4), (5, .int r3)]) hC (dX12_years_203) (by decide) rfl ?_
              refine g_iload_n (i := 3) (x := x3) hC (dX12_years_205) rfl rfl ?_
              refine g_aload_n (i := 0) (x := 36) hC (dX12_years_206) rfl rfl ?_
              refine g_aload_n (i := 0) (x := 36) hC (dX12_years_207) rfl rfl ?_
              refine g_getR (r := 49) hC flX12_55 (dX12_years_208) rfl rfl rfl ?_
              refine g_iload (i := 6) (x := r17) hC (dX12_years_211) rfl ?_
              refine g_iload (i := 7) (x := r18) hC (dX12_years_213) rfl ?_
              have h := wpO_b h
              refine g_callVi ([.ref 49, .int r17, .int r18]) hC wvX12_267 (dX12_years_215) rfl rfl (by omega) (Nat.le_of_ble_eq_true rfl) (cX12_goClaim_ok (by omega) 49 r17 r18 M200 h) (fun r19 M215 h => ?_)
              have h := wpO_p h
              obtain ⟨s0_226, e_s0_226, h⟩ := wpO_l h
              have hJ20 : G E Γ 8 226 [(0, .ref 36), (2, .int x2), (4, .int x4)] [.int s0_226, .int x3] M215 := by
                refine g_iadd hC (dX12_years_226) ?_
                refine g_nmi (fun x3_227 e_x3_227 => ?_)
                have h := wpO_n e_x3_227 h
                refine g_istore_n (i := 3) (lv2 := [(3, .int x3_227), (0, .ref 36), (2, .int x2), (4, .int x4)]) hC (dX12_years_227) rfl (by decide) rfl ?_
                refine g_sub (lv' := [(0, .ref 36), (2, .int x2), (3, .int x3_227), (4, .int x4)]) [1, 2, 0, 3] rfl ?_
                exact hJ16 _ _ (wpO_s h)
              refine g_if_lt (tgt := 225) hC (dX12_years_218) (by decide) (fun c218 => ?_) (fun c218 => ?_)
              · rw [if_pos c218] at e_s0_226
                refine g_iconst (v := 0) hC (dX12_years_225) kc_0 ?_
                refine g_sub (lv' := [(0, .ref 36), (2, .int x2), (4, .int x4)]) [2, 3, 5] rfl ?_
                subst e_s0_226
                exact hJ20
              · rw [if_neg c218] at e_s0_226
                refine g_iconst (v := 1) hC (dX12_years_221) kc_1 ?_
                refine g_goto (tgt := 226) hC (dX12_years_222) (by decide) ?_
                refine g_sub (lv' := [(0, .ref 36), (2, .int x2), (4, .int x4)]) [2, 3, 5] rfl ?_
                subst e_s0_226
                exact hJ20
          refine g_icmp_ne (tgt := 182) hC (dX12_years_127) (by decide) (fun c127 => ?_) (fun c127 => ?_)
          · have h := wpO_f c127 h
            exact hJ11 _ (wpO_s h)
          · have h := wpO_t c127 h
            refine g_aload_n (i := 0) (x := 36) hC (dX12_years_130) rfl rfl ?_
            refine g_getI hC flX12_92 (dX12_years_131) rfl rfl ?_
            refine g_if_le (tgt := 182) hC (dX12_years_134) (by decide) (fun c134 => ?_) (fun c134 => ?_)
            · have h := wpO_t c134 h
              exact hJ11 _ (wpO_s h)
            · have h := wpO_f c134 h
              refine g_aload_n (i := 0) (x := 36) hC (dX12_years_137) rfl rfl ?_
              refine g_bipush (v := 6) hC (dX12_years_138) kb_6 ?_
              have h := wpO_b h
              refine g_callVi ([.int 6]) hC wvX12_360 (dX12_years_140) rfl rfl (by omega) (Nat.le_of_ble_eq_true rfl) (cX12_draw_ok (by omega) 6 M_124 h) (fun r12 M140 h => ?_)
              have h := wpO_p h
              refine g_istore (i := 6) (lv2 := [(6, .int r12), (0, .ref 36), (2, .int x2), (3, .int x3), (4, .int x4), (5, .int r3)]) hC (dX12_years_143) (by decide) rfl ?_
              refine g_aload_n (i := 0) (x := 36) hC (dX12_years_145) rfl rfl ?_
              refine g_aload_n (i := 0) (x := 36) hC (dX12_years_146) rfl rfl ?_
              refine g_getI hC flX12_92 (dX12_years_147) rfl rfl ?_
              have h := wpO_b h
              refine g_callVi ([.int (M140.1 36 1)]) hC wvX12_360 (dX12_years_150) rfl rfl (by omega) (Nat.le_of_ble_eq_true rfl) (cX12_draw_ok (by omega) (M140.1 36 1) M140 h) (fun r13 M150 h => ?_)
              have h := wpO_p h
              refine g_istore (i := 7) (lv2 := [(7, .int r13), (6, .int r12), (0, .ref 36), (2, .int x2), (3, .int x3), (4, .int x4), (5, .int r3)]) hC (dX12_years_153) (by decide) rfl ?_
              refine g_aload_n (i := 0) (x := 36) hC (dX12_years_155) rfl rfl ?_
              refine g_aload_n (i := 0) (x := 36) hC (dX12_years_156) rfl rfl ?_
              refine g_getR (r := 49) hC flX12_55 (dX12_years_157) rfl rfl rfl ?_
              refine g_iload (i := 6) (x := r12) hC (dX12_years_160) rfl ?_
              refine g_iload (i := 7) (x := r13) hC (dX12_years_162) rfl ?_
              have h := wpO_b h
              refine g_callVi ([.ref 49, .int r12, .int r13]) hC wvX12_255 (dX12_years_164) rfl rfl (by omega) (Nat.le_of_ble_eq_true rfl) (cX12_refusesFind_ok (by omega) 49 r12 r13 M150 h) (fun r14 N q => ?_)
              obtain ⟨rfl, h⟩ := q
              refine g_if_ne (tgt := 182) hC (dX12_years_167) (by decide) (fun c167 => ?_) (fun c167 => ?_)
              · have h := wpO_f c167 h
                refine g_sub (lv' := [(0, .ref 36), (2, .int x2), (3, .int x3), (4, .int x4), (5, .int r3)]) [2, 3, 4, 5, 6] rfl ?_
                exact hJ11 _ (wpO_s h)
              · have h := wpO_t c167 h
                refine g_aload_n (i := 0) (x := 36) hC (dX12_years_170) rfl rfl ?_
                refine g_getR (r := 49) hC flX12_55 (dX12_years_171) rfl rfl rfl ?_
                refine g_iload (i := 7) (x := r13) hC (dX12_years_174) rfl ?_
                refine g_iconst (v := 2) hC (dX12_years_176) kc_2 ?_
                refine g_iload (i := 6) (x := r12) hC (dX12_years_177) rfl ?_
                have h := wpO_b h
                refine g_callSv ([.ref 49, .int r13, .int 2, .int r12]) hC wsX12_251 (dX12_years_179) rfl (by omega) (Nat.le_of_ble_eq_true rfl) (cX12_goes_ok (by omega) 49 r13 2 r12 M150 h) (fun M179 h => ?_)
                refine g_sub (lv' := [(0, .ref 36), (2, .int x2), (3, .int x3), (4, .int x4), (5, .int r3)]) [2, 3, 4, 5, 6] rfl ?_
                exact hJ11 _ (wpO_s h)
        refine g_icmp_ne (tgt := 124) hC (dX12_years_69) (by decide) (fun c69 => ?_) (fun c69 => ?_)
        · have h := wpO_f c69 h
          exact hJ6 _ (wpO_s h)
        · have h := wpO_t c69 h
          refine g_aload_n (i := 0) (x := 36) hC (dX12_years_72) rfl rfl ?_
          refine g_getI hC flX12_92 (dX12_years_73) rfl rfl ?_
          refine g_if_le (tgt := 124) hC (dX12_years_76) (by decide) (fun c76 => ?_) (fun c76 => ?_)
          · have h := wpO_t c76 h
            exact hJ6 _ (wpO_s h)
          · have h := wpO_f c76 h
            refine g_aload_n (i := 0) (x := 36) hC (dX12_years_79) rfl rfl ?_
            refine g_aload_n (i := 0) (x := 36) hC (dX12_years_80) rfl rfl ?_
            refine g_getI hC flX12_92 (dX12_years_81) rfl rfl ?_
            have h := wpO_b h
            refine g_callVi ([.int (M_66.1 36 1)]) hC wvX12_360 (dX12_years_84) rfl rfl (by omega) (Nat.le_of_ble_eq_true rfl) (cX12_draw_ok (by omega) (M_66.1 36 1) M_66 h) (fun r7 M84 h => ?_)
            have h := wpO_p h
            refine g_istore (i := 6) (lv2 := [(6, .int r7), (0, .ref 36), (2, .int x2), (3, .int x3), (4, .int x4), (5, .int r3)]) hC (dX12_years_87) (by decide) rfl ?_
            refine g_aload_n (i := 0) (x := 36) hC (dX12_years_89) rfl rfl ?_
            refine g_bipush (v := 6) hC (dX12_years_90) kb_6 ?_
            have h := wpO_b h
            refine g_callVi ([.int 6]) hC wvX12_360 (dX12_years_92) rfl rfl (by omega) (Nat.le_of_ble_eq_true rfl) (cX12_draw_ok (by omega) 6 M84 h) (fun r8 M92 h => ?_)
            have h := wpO_p h
            refine g_istore (i := 7) (lv2 := [(7, .int r8), (6, .int r7), (0, .ref 36), (2, .int x2), (3, .int x3), (4, .int x4), (5, .int r3)]) hC (dX12_years_95) (by decide) rfl ?_
            refine g_aload_n (i := 0) (x := 36) hC (dX12_years_97) rfl rfl ?_
            refine g_aload_n (i := 0) (x := 36) hC (dX12_years_98) rfl rfl ?_
            refine g_getR (r := 49) hC flX12_55 (dX12_years_99) rfl rfl rfl ?_
            refine g_iload (i := 6) (x := r7) hC (dX12_years_102) rfl ?_
            refine g_iload (i := 7) (x := r8) hC (dX12_years_104) rfl ?_
            have h := wpO_b h
            refine g_callVi ([.ref 49, .int r7, .int r8]) hC wvX12_243 (dX12_years_106) rfl rfl (by omega) (Nat.le_of_ble_eq_true rfl) (cX12_refusesLoss_ok (by omega) 49 r7 r8 M92 h) (fun r9 N q => ?_)
            obtain ⟨rfl, h⟩ := q
            refine g_if_ne (tgt := 124) hC (dX12_years_109) (by decide) (fun c109 => ?_) (fun c109 => ?_)
            · have h := wpO_f c109 h
              refine g_sub (lv' := [(0, .ref 36), (2, .int x2), (3, .int x3), (4, .int x4), (5, .int r3)]) [2, 3, 4, 5, 6] rfl ?_
              exact hJ6 _ (wpO_s h)
            · have h := wpO_t c109 h
              refine g_aload_n (i := 0) (x := 36) hC (dX12_years_112) rfl rfl ?_
              refine g_getR (r := 49) hC flX12_55 (dX12_years_113) rfl rfl rfl ?_
              refine g_iload (i := 6) (x := r7) hC (dX12_years_116) rfl ?_
              refine g_iconst (v := 1) hC (dX12_years_118) kc_1 ?_
              refine g_iload (i := 7) (x := r8) hC (dX12_years_119) rfl ?_
              have h := wpO_b h
              refine g_callSv ([.ref 49, .int r7, .int 1, .int r8]) hC wsX12_251 (dX12_years_121) rfl (by omega) (Nat.le_of_ble_eq_true rfl) (cX12_goes_ok (by omega) 49 r7 1 r8 M92 h) (fun M121 h => ?_)
              refine g_sub (lv' := [(0, .ref 36), (2, .int x2), (3, .int x3), (4, .int x4), (5, .int r3)]) [2, 3, 4, 5, 6] rfl ?_
              exact hJ6 _ (wpO_s h)
      refine g_if_ne (tgt := 66) hC (dX12_years_54) (by decide) (fun c54 => ?_) (fun c54 => ?_)
      · have h := wpO_f c54 h
        refine g_sub (lv' := [(0, .ref 36), (2, .int x2), (3, .int x3), (4, .int x4), (5, .int r3)]) [1, 2, 3, 4, 0] rfl ?_
        exact hJ4 _ (wpO_s h)
      · have h := wpO_t c54 h
        refine g_aload_n (i := 0) (x := 36) hC (dX12_years_57) rfl rfl ?_
        refine g_aload_n (i := 0) (x := 36) hC (dX12_years_58) rfl rfl ?_
        refine g_getR (r := 49) hC flX12_55 (dX12_years_59) rfl rfl rfl ?_
        have h := wpO_b h
        refine g_callVi ([.ref 49]) hC wvX12_273 (dX12_years_62) rfl rfl (by omega) (Nat.le_of_ble_eq_true rfl) (cX12_goDay_ok (by omega) 49 M47 h) (fun r5 M62 h => ?_)
        have h := wpO_p h
        refine g_pop hC (dX12_years_65) rfl ?_
        refine g_sub (lv' := [(0, .ref 36), (2, .int x2), (3, .int x3), (4, .int x4), (5, .int r3)]) [1, 2, 3, 4, 0] rfl ?_
        exact hJ4 _ (wpO_s h)
set_option maxHeartbeats 4000000 in
theorem cX12_years_ok {E : zE} {d : Nat} (hd : 108 ≤ d) (x1 : Int32) (x2 : Int32) (M : zM) {K : (Int32 × zM) → Prop} (h : wpO (fX12_years x1 x2 M) K) : CMi E d yX12_years cX12_years 8 (some .int) [.ref 36, .int x1, .int x2] M (fun r N => K (r, N)) := by
  refine CMi.of (by decide) (Nat.le_of_ble_eq_true rfl) (fun Γ hC hr => ?_)
  have hC : Cx E Γ RX12 cX12_years 8 d := hC
  show G E Γ 8 0 [(0, .ref 36), (1, .int x1), (2, .int x2)] [] M
  unfold fX12_years at h
  refine g_aload_n (i := 0) (x := 36) hC (dX12_years_0) rfl rfl ?_
  refine g_iconst (v := 0) hC (dX12_years_1) kc_0 ?_
  refine g_putI hC fpX12_86 (dX12_years_2) rfl rfl rfl rfl ?_
  refine g_nmM (fun M2 e_M2 => ?_)
  have h := wpO_n e_M2 h
  refine g_iload_n (i := 2) (x := x2) hC (dX12_years_5) rfl rfl ?_
  refine g_iconst (v := 1) hC (dX12_years_6) kc_1 ?_
  refine g_bipush (v := 60) hC (dX12_years_7) kb_60 ?_
  refine g_callSi ([.int x2, .int 1, .int 60]) hC wsX12_95 (dX12_years_9) rfl (by omega) (Nat.le_of_ble_eq_true rfl) (cX12_in_ok (by omega) x2 1 60 M2 (K := fun r => r = fX12_in x2 1 60) rfl) (fun r N q => ?_)
  obtain ⟨rfl, rfl⟩ := q
  refine g_if_ne (tgt := 17) hC (dX12_years_12) (by decide) (fun c12 => ?_) (fun c12 => ?_)
  · have h := wpO_f c12 h
    refine g_aload_n (i := 0) (x := 36) hC (dX12_years_17) rfl rfl ?_
    refine g_iload_n (i := 1) (x := x1) hC (dX12_years_18) rfl rfl ?_
    refine g_putI hC fpX12_356 (dX12_years_19) rfl rfl rfl rfl ?_
    refine g_nmM (fun M19 e_M19 => ?_)
    have h := wpO_n e_M19 h
    refine g_iconst (v := 0) hC (dX12_years_22) kc_0 ?_
    refine g_istore_n (i := 3) (lv2 := [(3, .int 0), (0, .ref 36), (1, .int x1), (2, .int x2)]) hC (dX12_years_23) rfl (by decide) rfl ?_
    refine g_aload_n (i := 0) (x := 36) hC (dX12_years_24) rfl rfl ?_
    refine g_getR (r := 37) hC flX12_9 (dX12_years_25) rfl rfl rfl ?_
    refine g_aload_n (i := 0) (x := 36) hC (dX12_years_28) rfl rfl ?_
    refine g_getR (r := 49) hC flX12_55 (dX12_years_29) rfl rfl rfl ?_
    refine g_iconst (v := 0) hC (dX12_years_32) kc_0 ?_
    have h := wpO_b h
    refine g_callSv ([.ref 37, .ref 49, .int 0]) hC wsX12_239 (dX12_years_33) rfl (by omega) (Nat.le_of_ble_eq_true rfl) (cX12_lay_ok (by omega) 37 49 0 M19 h) (fun M33 h => ?_)
    refine g_iconst (v := 0) hC (dX12_years_36) kc_0 ?_
    refine g_istore (i := 4) (lv2 := [(4, .int 0), (3, .int 0), (0, .ref 36), (1, .int x1), (2, .int x2)]) hC (dX12_years_37) (by decide) rfl ?_
    refine g_sub (lv' := [(0, .ref 36), (2, .int x2), (3, .int 0), (4, .int 0)]) [2, 4, 1, 0] rfl ?_
    refine wpO_bJ h (fun KL39 hKL39 h => ?_)
    refine lX12_years_39 (K1 := KL39) hC (by omega) x2 (fun x3_234 M_234 h => ?_) _ _ _ _ h
    have h := hKL39 _ h
    have h := wpO_p h
    refine g_aload_n (i := 0) (x := 36) hC (dX12_years_234) rfl rfl ?_
    refine g_iconst (v := 0) hC (dX12_years_235) kc_0 ?_
    refine g_putI hC fpX12_89 (dX12_years_236) rfl rfl rfl rfl ?_
    refine g_nmM (fun M236 e_M236 => ?_)
    have h := wpO_n e_M236 h
    refine g_aload_n (i := 0) (x := 36) hC (dX12_years_239) rfl rfl ?_
    refine g_aload_n (i := 0) (x := 36) hC (dX12_years_240) rfl rfl ?_
    refine g_aload_n (i := 0) (x := 36) hC (dX12_years_241) rfl rfl ?_
    refine g_getR (r := 49) hC flX12_55 (dX12_years_242) rfl rfl rfl ?_
    refine g_bipush (v := 6) hC (dX12_years_245) kb_6 ?_
    have h := wpO_b h
    refine g_callVi ([.ref 49, .int 6]) hC wvX12_213 (dX12_years_247) rfl rfl (by omega) (Nat.le_of_ble_eq_true rfl) (cX12_hadBy_ok (by omega) 49 6 M236 h) (fun r21 N q => ?_)
    obtain ⟨rfl, h⟩ := q
    refine g_i2l hC (dX12_years_250) ?_
    have h := wpO_b h
    refine g_callVv ([.long r21.toInt64]) hC wvX12_280 (dX12_years_251) rfl rfl (by omega) (Nat.le_of_ble_eq_true rfl) (cX12_tell_ok (by omega) r21.toInt64 M236 h) (fun M251 h => ?_)
    refine g_aload_n (i := 0) (x := 36) hC (dX12_years_254) rfl rfl ?_
    refine g_aload_n (i := 0) (x := 36) hC (dX12_years_255) rfl rfl ?_
    refine g_aload_n (i := 0) (x := 36) hC (dX12_years_256) rfl rfl ?_
    refine g_getR (r := 49) hC flX12_55 (dX12_years_257) rfl rfl rfl ?_
    refine g_iconst (v := 2) hC (dX12_years_260) kc_2 ?_
    have h := wpO_b h
    refine g_callVi ([.ref 49, .int 2]) hC wvX12_209 (dX12_years_261) rfl rfl (by omega) (Nat.le_of_ble_eq_true rfl) (cX12_those_ok (by omega) 49 2 M251 h) (fun r23 N q => ?_)
    obtain ⟨rfl, h⟩ := q
    refine g_i2l hC (dX12_years_264) ?_
    have h := wpO_b h
    refine g_callVv ([.long r23.toInt64]) hC wvX12_280 (dX12_years_265) rfl rfl (by omega) (Nat.le_of_ble_eq_true rfl) (cX12_tell_ok (by omega) r23.toInt64 M251 h) (fun M265 h => ?_)
    refine g_iload_n (i := 3) (x := x3_234) hC (dX12_years_268) rfl rfl ?_
    refine g_ireturn hC hr (dX12_years_269) ?_
    exact wpO_s h
  · have h := wpO_t c12 h
    refine g_iconst (v := (-1)) hC (dX12_years_15) kc_m1 ?_
    refine g_ireturn hC hr (dX12_years_16) ?_
    exact wpO_s h
/-! LostByStateModel.keep(I)Z -/
theorem dX12_keep_0 : decode cX12_keep 0 = .ok (.aload_n 0, 1) := by decide +kernel
theorem dX12_keep_1 : decode cX12_keep 1 = .ok (.iconst 0, 1) := by decide +kernel
theorem dX12_keep_2 : decode cX12_keep 2 = .ok (.putfield 86, 3) := by decide +kernel
theorem dX12_keep_5 : decode cX12_keep 5 = .ok (.iload_n 1, 1) := by decide +kernel
theorem dX12_keep_6 : decode cX12_keep 6 = .ok (.iconst 0, 1) := by decide +kernel
theorem dX12_keep_7 : decode cX12_keep 7 = .ok (.iconst 1, 1) := by decide +kernel
theorem dX12_keep_8 : decode cX12_keep 8 = .ok (.invokestatic 95, 3) := by decide +kernel
theorem dX12_keep_11 : decode cX12_keep 11 = .ok (.ifCond .ne 5, 3) := by decide +kernel
theorem dX12_keep_14 : decode cX12_keep 14 = .ok (.iconst 0, 1) := by decide +kernel
theorem dX12_keep_15 : decode cX12_keep 15 = .ok (.ireturn, 1) := by decide +kernel
theorem dX12_keep_16 : decode cX12_keep 16 = .ok (.aload_n 0, 1) := by decide +kernel
theorem dX12_keep_17 : decode cX12_keep 17 = .ok (.getfield 79, 3) := by decide +kernel
theorem dX12_keep_20 : decode cX12_keep 20 = .ok (.iload_n 1, 1) := by decide +kernel
theorem dX12_keep_21 : decode cX12_keep 21 = .ok (.iconst 1, 1) := by decide +kernel
theorem dX12_keep_22 : decode cX12_keep 22 = .ok (.bastore, 1) := by decide +kernel
theorem dX12_keep_23 : decode cX12_keep 23 = .ok (.aload_n 0, 1) := by decide +kernel
theorem dX12_keep_24 : decode cX12_keep 24 = .ok (.getfield 83, 3) := by decide +kernel
theorem dX12_keep_27 : decode cX12_keep 27 = .ok (.iload_n 1, 1) := by decide +kernel
theorem dX12_keep_28 : decode cX12_keep 28 = .ok (.aload_n 0, 1) := by decide +kernel
theorem dX12_keep_29 : decode cX12_keep 29 = .ok (.getfield 147, 3) := by decide +kernel
theorem dX12_keep_32 : decode cX12_keep 32 = .ok (.iastore, 1) := by decide +kernel
theorem dX12_keep_33 : decode cX12_keep 33 = .ok (.aload_n 0, 1) := by decide +kernel
theorem dX12_keep_34 : decode cX12_keep 34 = .ok (.getfield 9, 3) := by decide +kernel
theorem dX12_keep_37 : decode cX12_keep 37 = .ok (.aload_n 0, 1) := by decide +kernel
theorem dX12_keep_38 : decode cX12_keep 38 = .ok (.getfield 76, 3) := by decide +kernel
theorem dX12_keep_41 : decode cX12_keep 41 = .ok (.bipush 26, 2) := by decide +kernel
theorem dX12_keep_43 : decode cX12_keep 43 = .ok (.iload_n 1, 1) := by decide +kernel
theorem dX12_keep_44 : decode cX12_keep 44 = .ok (.imul, 1) := by decide +kernel
theorem dX12_keep_45 : decode cX12_keep 45 = .ok (.invokestatic 239, 3) := by decide +kernel
theorem dX12_keep_48 : decode cX12_keep 48 = .ok (.iconst 1, 1) := by decide +kernel
theorem dX12_keep_49 : decode cX12_keep 49 = .ok (.ireturn, 1) := by decide +kernel
def fX12_keep (x1 : Int32) (M : zM) : Option (Int32 × zM) := zlet (zSI M 36 12 0) fun (M2 : zM) =>
  if (fX12_in x1 0 1) = 0 then (
  some (0, M2))
  else (
  if zin x1 2 then (
  zlet (zSI M2 57 x1.toNatClampNeg (vp_nar .boolean 1)) fun (M22 : zM) =>
  zlet (zSI M22 58 x1.toNatClampNeg (M22.1 36 37)) fun (M32 : zM) =>
  (fX12_lay 37 56 (26 * x1) M32).bind fun (M45 : zM) =>
  some (1, M45)) else none)
set_option maxHeartbeats 4000000 in
theorem cX12_keep_ok {E : zE} {d : Nat} (hd : 1 ≤ d) (x1 : Int32) (M : zM) {K : (Int32 × zM) → Prop} (h : wpO (fX12_keep x1 M) K) : CMi E d yX12_keep cX12_keep 2 (some .boolean) [.ref 36, .int x1] M (fun r N => K (r, N)) := by
  refine CMi.of (by decide) (Nat.le_of_ble_eq_true rfl) (fun Γ hC hr => ?_)
  have hC : Cx E Γ RX12 cX12_keep 2 d := hC
  show G E Γ 2 0 [(0, .ref 36), (1, .int x1)] [] M
  unfold fX12_keep at h
  refine g_aload_n (i := 0) (x := 36) hC (dX12_keep_0) rfl rfl ?_
  refine g_iconst (v := 0) hC (dX12_keep_1) kc_0 ?_
  refine g_putI hC fpX12_86 (dX12_keep_2) rfl rfl rfl rfl ?_
  refine g_nmM (fun M2 e_M2 => ?_)
  have h := wpO_n e_M2 h
  refine g_iload_n (i := 1) (x := x1) hC (dX12_keep_5) rfl rfl ?_
  refine g_iconst (v := 0) hC (dX12_keep_6) kc_0 ?_
  refine g_iconst (v := 1) hC (dX12_keep_7) kc_1 ?_
  refine g_callSi ([.int x1, .int 0, .int 1]) hC wsX12_95 (dX12_keep_8) rfl (by omega) (Nat.le_of_ble_eq_true rfl) (cX12_in_ok (by omega) x1 0 1 M2 (K := fun r => r = fX12_in x1 0 1) rfl) (fun r N q => ?_)
  obtain ⟨rfl, rfl⟩ := q
  refine g_if_ne (tgt := 16) hC (dX12_keep_11) (by decide) (fun c11 => ?_) (fun c11 => ?_)
  · have h := wpO_f c11 h
    refine g_aload_n (i := 0) (x := 36) hC (dX12_keep_16) rfl rfl ?_
    refine g_getR (r := 57) hC flX12_79 (dX12_keep_17) rfl rfl rfl ?_
    refine g_iload_n (i := 1) (x := x1) hC (dX12_keep_20) rfl rfl ?_
    refine g_iconst (v := 1) hC (dX12_keep_21) kc_1 ?_
    obtain ⟨q2, h⟩ := wpO_g h
    refine g_zastore (n := 2) hC (dX12_keep_22) rfl q2 ?_
    refine g_nmM (fun M22 e_M22 => ?_)
    have h := wpO_n e_M22 h
    refine g_aload_n (i := 0) (x := 36) hC (dX12_keep_23) rfl rfl ?_
    refine g_getR (r := 58) hC flX12_83 (dX12_keep_24) rfl rfl rfl ?_
    refine g_iload_n (i := 1) (x := x1) hC (dX12_keep_27) rfl rfl ?_
    refine g_aload_n (i := 0) (x := 36) hC (dX12_keep_28) rfl rfl ?_
    refine g_getI hC flX12_147 (dX12_keep_29) rfl rfl ?_
    refine g_iastore (n := 2) hC (dX12_keep_32) rfl q2 ?_
    refine g_nmM (fun M32 e_M32 => ?_)
    have h := wpO_n e_M32 h
    refine g_aload_n (i := 0) (x := 36) hC (dX12_keep_33) rfl rfl ?_
    refine g_getR (r := 37) hC flX12_9 (dX12_keep_34) rfl rfl rfl ?_
    refine g_aload_n (i := 0) (x := 36) hC (dX12_keep_37) rfl rfl ?_
    refine g_getR (r := 56) hC flX12_76 (dX12_keep_38) rfl rfl rfl ?_
    refine g_bipush (v := 26) hC (dX12_keep_41) kb_26 ?_
    refine g_iload_n (i := 1) (x := x1) hC (dX12_keep_43) rfl rfl ?_
    refine g_imul hC (dX12_keep_44) ?_
    have h := wpO_b h
    refine g_callSv ([.ref 37, .ref 56, .int (26 * x1)]) hC wsX12_239 (dX12_keep_45) rfl (by omega) (Nat.le_of_ble_eq_true rfl) (cX12_lay_ok (by omega) 37 56 (26 * x1) M32 h) (fun M45 h => ?_)
    refine g_iconst (v := 1) hC (dX12_keep_48) kc_1 ?_
    refine g_zreturn hC hr (dX12_keep_49) (Or.inr rfl) ?_
    exact wpO_s h
  · have h := wpO_t c11 h
    refine g_iconst (v := 0) hC (dX12_keep_14) kc_0 ?_
    refine g_zreturn hC hr (dX12_keep_15) (Or.inl rfl) ?_
    exact wpO_s h
/-! LostByStateModel.again(I)Z -/
theorem dX12_again_0 : decode cX12_again 0 = .ok (.aload_n 0, 1) := by decide +kernel
theorem dX12_again_1 : decode cX12_again 1 = .ok (.iconst 0, 1) := by decide +kernel
theorem dX12_again_2 : decode cX12_again 2 = .ok (.putfield 86, 3) := by decide +kernel
theorem dX12_again_5 : decode cX12_again 5 = .ok (.iload_n 1, 1) := by decide +kernel
theorem dX12_again_6 : decode cX12_again 6 = .ok (.iconst 0, 1) := by decide +kernel
theorem dX12_again_7 : decode cX12_again 7 = .ok (.iconst 1, 1) := by decide +kernel
theorem dX12_again_8 : decode cX12_again 8 = .ok (.invokestatic 95, 3) := by decide +kernel
theorem dX12_again_11 : decode cX12_again 11 = .ok (.ifCond .eq 25, 3) := by decide +kernel
theorem dX12_again_14 : decode cX12_again 14 = .ok (.aload_n 0, 1) := by decide +kernel
theorem dX12_again_15 : decode cX12_again 15 = .ok (.getfield 79, 3) := by decide +kernel
theorem dX12_again_18 : decode cX12_again 18 = .ok (.iload_n 1, 1) := by decide +kernel
theorem dX12_again_19 : decode cX12_again 19 = .ok (.baload, 1) := by decide +kernel
theorem dX12_again_20 : decode cX12_again 20 = .ok (.ifCond .eq 16, 3) := by decide +kernel
theorem dX12_again_23 : decode cX12_again 23 = .ok (.aload_n 0, 1) := by decide +kernel
theorem dX12_again_24 : decode cX12_again 24 = .ok (.getfield 83, 3) := by decide +kernel
theorem dX12_again_27 : decode cX12_again 27 = .ok (.iload_n 1, 1) := by decide +kernel
theorem dX12_again_28 : decode cX12_again 28 = .ok (.iaload, 1) := by decide +kernel
theorem dX12_again_29 : decode cX12_again 29 = .ok (.aload_n 0, 1) := by decide +kernel
theorem dX12_again_30 : decode cX12_again 30 = .ok (.getfield 147, 3) := by decide +kernel
theorem dX12_again_33 : decode cX12_again 33 = .ok (.if_icmp .eq 5, 3) := by decide +kernel
theorem dX12_again_36 : decode cX12_again 36 = .ok (.iconst 0, 1) := by decide +kernel
theorem dX12_again_37 : decode cX12_again 37 = .ok (.ireturn, 1) := by decide +kernel
theorem dX12_again_38 : decode cX12_again 38 = .ok (.iconst 0, 1) := by decide +kernel
theorem dX12_again_39 : decode cX12_again 39 = .ok (.istore_n 2, 1) := by decide +kernel
theorem dX12_again_40 : decode cX12_again 40 = .ok (.iload_n 2, 1) := by decide +kernel
theorem dX12_again_41 : decode cX12_again 41 = .ok (.bipush 26, 2) := by decide +kernel
theorem dX12_again_43 : decode cX12_again 43 = .ok (.if_icmp .ge 26, 3) := by decide +kernel
theorem dX12_again_46 : decode cX12_again 46 = .ok (.aload_n 0, 1) := by decide +kernel
theorem dX12_again_47 : decode cX12_again 47 = .ok (.getfield 9, 3) := by decide +kernel
theorem dX12_again_50 : decode cX12_again 50 = .ok (.iload_n 2, 1) := by decide +kernel
theorem dX12_again_51 : decode cX12_again 51 = .ok (.aload_n 0, 1) := by decide +kernel
theorem dX12_again_52 : decode cX12_again 52 = .ok (.getfield 76, 3) := by decide +kernel
theorem dX12_again_55 : decode cX12_again 55 = .ok (.bipush 26, 2) := by decide +kernel
theorem dX12_again_57 : decode cX12_again 57 = .ok (.iload_n 1, 1) := by decide +kernel
theorem dX12_again_58 : decode cX12_again 58 = .ok (.imul, 1) := by decide +kernel
theorem dX12_again_59 : decode cX12_again 59 = .ok (.iload_n 2, 1) := by decide +kernel
theorem dX12_again_60 : decode cX12_again 60 = .ok (.iadd, 1) := by decide +kernel
theorem dX12_again_61 : decode cX12_again 61 = .ok (.iaload, 1) := by decide +kernel
theorem dX12_again_62 : decode cX12_again 62 = .ok (.iastore, 1) := by decide +kernel
theorem dX12_again_63 : decode cX12_again 63 = .ok (.iinc 2 1, 3) := by decide +kernel
theorem dX12_again_66 : decode cX12_again 66 = .ok (.goto (-26), 3) := by decide +kernel
theorem dX12_again_69 : decode cX12_again 69 = .ok (.aload_n 0, 1) := by decide +kernel
theorem dX12_again_70 : decode cX12_again 70 = .ok (.iconst 0, 1) := by decide +kernel
theorem dX12_again_71 : decode cX12_again 71 = .ok (.putfield 144, 3) := by decide +kernel
theorem dX12_again_74 : decode cX12_again 74 = .ok (.iconst 1, 1) := by decide +kernel
theorem dX12_again_75 : decode cX12_again 75 = .ok (.ireturn, 1) := by decide +kernel
def fX12_again_L40 (x1 : Int32) : Nat → Int32 → zM → Option zM
  | 0, _, _ => none
  | n + 1, x2, M => if 26 ≤ x2 then (
    some M)
    else (
    if zin ((26 * x1) + x2) 52 then (
    if zin x2 26 then (
    zlet (zSI M 37 x2.toNatClampNeg (M.1 56 ((26 * x1) + x2).toNatClampNeg)) fun (M62 : zM) =>
    fX12_again_L40 x1 n (x2 + 1) M62) else none) else none)
def fX12_again (x1 : Int32) (M : zM) : Option (Int32 × zM) := zlet (zSI M 36 12 0) fun (M2 : zM) =>
  if (fX12_in x1 0 1) = 0 then (
  some (0, M2))
  else (
  if zin x1 2 then (
  if (M2.1 57 x1.toNatClampNeg) = 0 then (
  some (0, M2))
  else (
  if (M2.1 58 x1.toNatClampNeg) = (M2.1 36 37) then (
  (fX12_again_L40 x1 4000 0 M2).bind fun (M_69 : zM) =>
  zlet (zSI M_69 36 25 0) fun (M71 : zM) =>
  some (1, M71))
  else (
  some (0, M2)))) else none)
set_option maxHeartbeats 4000000 in
theorem lX12_again_40 {E : zE} {Γ : zT} {d : Nat} {K1 : zM → Prop} (hC : Cx E Γ RX12 cX12_again 3 d) (hd : 1 ≤ d) (x1 : Int32) (hx : ∀ (M_69 : zM), K1 M_69 → G E Γ 3 69 [(0, .ref 36)] [] M_69) :
    ∀ (n : Nat) (x2 : Int32) (M : zM), wpO (fX12_again_L40 x1 n x2 M) K1 → G E Γ 3 40 [(0, .ref 36), (1, .int x1), (2, .int x2)] [] M := by
  intro n
  induction n with
  | zero =>
    intro x2 M h
    exact (wpO_0 h).elim
  | succ n ih =>
    intro x2 M h
    rw [fX12_again_L40.eq_2] at h
    refine g_iload_n (i := 2) (x := x2) hC (dX12_again_40) rfl rfl ?_
    refine g_bipush (v := 26) hC (dX12_again_41) kb_26 ?_
    refine g_icmp_ge (tgt := 69) hC (dX12_again_43) (by decide) (fun c43 => ?_) (fun c43 => ?_)
    · have h := wpO_t c43 h
      refine g_sub (lv' := [(0, .ref 36)]) [0] rfl ?_
      exact hx _ (wpO_s h)
    · have h := wpO_f c43 h
      refine g_aload_n (i := 0) (x := 36) hC (dX12_again_46) rfl rfl ?_
      refine g_getR (r := 37) hC flX12_9 (dX12_again_47) rfl rfl rfl ?_
      refine g_iload_n (i := 2) (x := x2) hC (dX12_again_50) rfl rfl ?_
      refine g_aload_n (i := 0) (x := 36) hC (dX12_again_51) rfl rfl ?_
      refine g_getR (r := 56) hC flX12_76 (dX12_again_52) rfl rfl rfl ?_
      refine g_bipush (v := 26) hC (dX12_again_55) kb_26 ?_
      refine g_iload_n (i := 1) (x := x1) hC (dX12_again_57) rfl rfl ?_
      refine g_imul hC (dX12_again_58) ?_
      refine g_iload_n (i := 2) (x := x2) hC (dX12_again_59) rfl rfl ?_
      refine g_iadd hC (dX12_again_60) ?_
      obtain ⟨q3, h⟩ := wpO_g h
      refine g_iaload (n := 52) hC (dX12_again_61) rfl q3 ?_
      obtain ⟨q4, h⟩ := wpO_g h
      refine g_iastore (n := 26) hC (dX12_again_62) rfl q4 ?_
      refine g_nmM (fun M62 e_M62 => ?_)
      have h := wpO_n e_M62 h
      refine g_iinc (x := x2) (v := (x2 + 1)) (lv2 := [(2, .int (x2 + 1)), (0, .ref 36), (1, .int x1)]) hC (dX12_again_63) rfl rfl (by decide) rfl ?_
      refine g_goto (tgt := 40) hC (dX12_again_66) (by decide) ?_
      refine g_sub (lv' := [(0, .ref 36), (1, .int x1), (2, .int (x2 + 1))]) [1, 2, 0] rfl ?_
      exact ih _ _ h
set_option maxHeartbeats 4000000 in
theorem cX12_again_ok {E : zE} {d : Nat} (hd : 1 ≤ d) (x1 : Int32) (M : zM) {K : (Int32 × zM) → Prop} (h : wpO (fX12_again x1 M) K) : CMi E d yX12_again cX12_again 3 (some .boolean) [.ref 36, .int x1] M (fun r N => K (r, N)) := by
  refine CMi.of (by decide) (Nat.le_of_ble_eq_true rfl) (fun Γ hC hr => ?_)
  have hC : Cx E Γ RX12 cX12_again 3 d := hC
  show G E Γ 3 0 [(0, .ref 36), (1, .int x1)] [] M
  unfold fX12_again at h
  refine g_aload_n (i := 0) (x := 36) hC (dX12_again_0) rfl rfl ?_
  refine g_iconst (v := 0) hC (dX12_again_1) kc_0 ?_
  refine g_putI hC fpX12_86 (dX12_again_2) rfl rfl rfl rfl ?_
  refine g_nmM (fun M2 e_M2 => ?_)
  have h := wpO_n e_M2 h
  refine g_iload_n (i := 1) (x := x1) hC (dX12_again_5) rfl rfl ?_
  refine g_iconst (v := 0) hC (dX12_again_6) kc_0 ?_
  refine g_iconst (v := 1) hC (dX12_again_7) kc_1 ?_
  refine g_callSi ([.int x1, .int 0, .int 1]) hC wsX12_95 (dX12_again_8) rfl (by omega) (Nat.le_of_ble_eq_true rfl) (cX12_in_ok (by omega) x1 0 1 M2 (K := fun r => r = fX12_in x1 0 1) rfl) (fun r N q => ?_)
  obtain ⟨rfl, rfl⟩ := q
  refine g_if_eq (tgt := 36) hC (dX12_again_11) (by decide) (fun c11 => ?_) (fun c11 => ?_)
  · have h := wpO_t c11 h
    refine g_iconst (v := 0) hC (dX12_again_36) kc_0 ?_
    refine g_zreturn hC hr (dX12_again_37) (Or.inl rfl) ?_
    exact wpO_s h
  · have h := wpO_f c11 h
    refine g_aload_n (i := 0) (x := 36) hC (dX12_again_14) rfl rfl ?_
    refine g_getR (r := 57) hC flX12_79 (dX12_again_15) rfl rfl rfl ?_
    refine g_iload_n (i := 1) (x := x1) hC (dX12_again_18) rfl rfl ?_
    obtain ⟨q2, h⟩ := wpO_g h
    refine g_zaload (n := 2) hC (dX12_again_19) rfl q2 ?_
    refine g_if_eq (tgt := 36) hC (dX12_again_20) (by decide) (fun c20 => ?_) (fun c20 => ?_)
    · have h := wpO_t c20 h
      refine g_iconst (v := 0) hC (dX12_again_36) kc_0 ?_
      refine g_zreturn hC hr (dX12_again_37) (Or.inl rfl) ?_
      exact wpO_s h
    · have h := wpO_f c20 h
      refine g_aload_n (i := 0) (x := 36) hC (dX12_again_23) rfl rfl ?_
      refine g_getR (r := 58) hC flX12_83 (dX12_again_24) rfl rfl rfl ?_
      refine g_iload_n (i := 1) (x := x1) hC (dX12_again_27) rfl rfl ?_
      refine g_iaload (n := 2) hC (dX12_again_28) rfl q2 ?_
      refine g_aload_n (i := 0) (x := 36) hC (dX12_again_29) rfl rfl ?_
      refine g_getI hC flX12_147 (dX12_again_30) rfl rfl ?_
      refine g_icmp_eq (tgt := 38) hC (dX12_again_33) (by decide) (fun c33 => ?_) (fun c33 => ?_)
      · have h := wpO_t c33 h
        refine g_iconst (v := 0) hC (dX12_again_38) kc_0 ?_
        refine g_istore_n (i := 2) (lv2 := [(2, .int 0), (0, .ref 36), (1, .int x1)]) hC (dX12_again_39) rfl (by decide) rfl ?_
        refine g_sub (lv' := [(0, .ref 36), (1, .int x1), (2, .int 0)]) [1, 2, 0] rfl ?_
        refine wpO_bJ h (fun KL40 hKL40 h => ?_)
        refine lX12_again_40 (K1 := KL40) hC (by omega) x1 (fun M_69 h => ?_) _ _ _ h
        have h := hKL40 _ h
        refine g_aload_n (i := 0) (x := 36) hC (dX12_again_69) rfl rfl ?_
        refine g_iconst (v := 0) hC (dX12_again_70) kc_0 ?_
        refine g_putI hC fpX12_144 (dX12_again_71) rfl rfl rfl rfl ?_
        refine g_nmM (fun M71 e_M71 => ?_)
        have h := wpO_n e_M71 h
        refine g_iconst (v := 1) hC (dX12_again_74) kc_1 ?_
        refine g_zreturn hC hr (dX12_again_75) (Or.inr rfl) ?_
        exact wpO_s h
      · have h := wpO_f c33 h
        refine g_iconst (v := 0) hC (dX12_again_36) kc_0 ?_
        refine g_zreturn hC hr (dX12_again_37) (Or.inl rfl) ?_
        exact wpO_s h
/-! LostByStateModel.count(I)I -/
theorem dX12_count_0 : decode cX12_count 0 = .ok (.aload_n 0, 1) := by decide +kernel
theorem dX12_count_1 : decode cX12_count 1 = .ok (.iconst 0, 1) := by decide +kernel
theorem dX12_count_2 : decode cX12_count 2 = .ok (.putfield 86, 3) := by decide +kernel
theorem dX12_count_5 : decode cX12_count 5 = .ok (.iload_n 1, 1) := by decide +kernel
theorem dX12_count_6 : decode cX12_count 6 = .ok (.tableswitch 156 0 12 #[66, 71, 76, 81, 89, 97, 105, 116, 126, 136, 141, 146, 151], 66) := by decide +kernel
theorem dX12_count_72 : decode cX12_count 72 = .ok (.aload_n 0, 1) := by decide +kernel
theorem dX12_count_73 : decode cX12_count 73 = .ok (.getfield 92, 3) := by decide +kernel
theorem dX12_count_76 : decode cX12_count 76 = .ok (.ireturn, 1) := by decide +kernel
theorem dX12_count_77 : decode cX12_count 77 = .ok (.aload_n 0, 1) := by decide +kernel
theorem dX12_count_78 : decode cX12_count 78 = .ok (.getfield 99, 3) := by decide +kernel
theorem dX12_count_81 : decode cX12_count 81 = .ok (.ireturn, 1) := by decide +kernel
theorem dX12_count_82 : decode cX12_count 82 = .ok (.aload_n 0, 1) := by decide +kernel
theorem dX12_count_83 : decode cX12_count 83 = .ok (.getfield 13, 3) := by decide +kernel
theorem dX12_count_86 : decode cX12_count 86 = .ok (.ireturn, 1) := by decide +kernel
theorem dX12_count_87 : decode cX12_count 87 = .ok (.bipush 100, 2) := by decide +kernel
theorem dX12_count_89 : decode cX12_count 89 = .ok (.aload_n 0, 1) := by decide +kernel
theorem dX12_count_90 : decode cX12_count 90 = .ok (.getfield 17, 3) := by decide +kernel
theorem dX12_count_93 : decode cX12_count 93 = .ok (.iadd, 1) := by decide +kernel
theorem dX12_count_94 : decode cX12_count 94 = .ok (.ireturn, 1) := by decide +kernel
theorem dX12_count_95 : decode cX12_count 95 = .ok (.aload_n 0, 1) := by decide +kernel
theorem dX12_count_96 : decode cX12_count 96 = .ok (.getfield 9, 3) := by decide +kernel
theorem dX12_count_99 : decode cX12_count 99 = .ok (.bipush 24, 2) := by decide +kernel
theorem dX12_count_101 : decode cX12_count 101 = .ok (.iaload, 1) := by decide +kernel
theorem dX12_count_102 : decode cX12_count 102 = .ok (.ireturn, 1) := by decide +kernel
theorem dX12_count_103 : decode cX12_count 103 = .ok (.aload_n 0, 1) := by decide +kernel
theorem dX12_count_104 : decode cX12_count 104 = .ok (.getfield 9, 3) := by decide +kernel
theorem dX12_count_107 : decode cX12_count 107 = .ok (.bipush 25, 2) := by decide +kernel
theorem dX12_count_109 : decode cX12_count 109 = .ok (.iaload, 1) := by decide +kernel
theorem dX12_count_110 : decode cX12_count 110 = .ok (.ireturn, 1) := by decide +kernel
theorem dX12_count_111 : decode cX12_count 111 = .ok (.aload_n 0, 1) := by decide +kernel
theorem dX12_count_112 : decode cX12_count 112 = .ok (.aload_n 0, 1) := by decide +kernel
theorem dX12_count_113 : decode cX12_count 113 = .ok (.getfield 9, 3) := by decide +kernel
theorem dX12_count_116 : decode cX12_count 116 = .ok (.bipush 6, 2) := by decide +kernel
theorem dX12_count_118 : decode cX12_count 118 = .ok (.invokevirtual 213, 3) := by decide +kernel
theorem dX12_count_121 : decode cX12_count 121 = .ok (.ireturn, 1) := by decide +kernel
theorem dX12_count_122 : decode cX12_count 122 = .ok (.aload_n 0, 1) := by decide +kernel
theorem dX12_count_123 : decode cX12_count 123 = .ok (.aload_n 0, 1) := by decide +kernel
theorem dX12_count_124 : decode cX12_count 124 = .ok (.getfield 9, 3) := by decide +kernel
theorem dX12_count_127 : decode cX12_count 127 = .ok (.iconst 1, 1) := by decide +kernel
theorem dX12_count_128 : decode cX12_count 128 = .ok (.invokevirtual 209, 3) := by decide +kernel
theorem dX12_count_131 : decode cX12_count 131 = .ok (.ireturn, 1) := by decide +kernel
theorem dX12_count_132 : decode cX12_count 132 = .ok (.aload_n 0, 1) := by decide +kernel
theorem dX12_count_133 : decode cX12_count 133 = .ok (.aload_n 0, 1) := by decide +kernel
theorem dX12_count_134 : decode cX12_count 134 = .ok (.getfield 9, 3) := by decide +kernel
theorem dX12_count_137 : decode cX12_count 137 = .ok (.iconst 2, 1) := by decide +kernel
theorem dX12_count_138 : decode cX12_count 138 = .ok (.invokevirtual 209, 3) := by decide +kernel
theorem dX12_count_141 : decode cX12_count 141 = .ok (.ireturn, 1) := by decide +kernel
theorem dX12_count_142 : decode cX12_count 142 = .ok (.aload_n 0, 1) := by decide +kernel
theorem dX12_count_143 : decode cX12_count 143 = .ok (.getfield 309, 3) := by decide +kernel
theorem dX12_count_146 : decode cX12_count 146 = .ok (.ireturn, 1) := by decide +kernel
theorem dX12_count_147 : decode cX12_count 147 = .ok (.aload_n 0, 1) := by decide +kernel
theorem dX12_count_148 : decode cX12_count 148 = .ok (.getfield 144, 3) := by decide +kernel
theorem dX12_count_151 : decode cX12_count 151 = .ok (.ireturn, 1) := by decide +kernel
theorem dX12_count_152 : decode cX12_count 152 = .ok (.aload_n 0, 1) := by decide +kernel
theorem dX12_count_153 : decode cX12_count 153 = .ok (.getfield 89, 3) := by decide +kernel
theorem dX12_count_156 : decode cX12_count 156 = .ok (.ireturn, 1) := by decide +kernel
theorem dX12_count_157 : decode cX12_count 157 = .ok (.aload_n 0, 1) := by decide +kernel
theorem dX12_count_158 : decode cX12_count 158 = .ok (.getfield 102, 3) := by decide +kernel
theorem dX12_count_161 : decode cX12_count 161 = .ok (.ireturn, 1) := by decide +kernel
theorem dX12_count_162 : decode cX12_count 162 = .ok (.iconst (-1), 1) := by decide +kernel
theorem dX12_count_163 : decode cX12_count 163 = .ok (.ireturn, 1) := by decide +kernel
def fX12_count (x1 : Int32) (M : zM) : Option (Int32 × zM) := zlet (zSI M 36 12 0) fun (M2 : zM) =>
  if x1 = 0 then (
  some (M2.1 36 1, M2))
  else (
  if x1 = 1 then (
  some (M2.1 36 2, M2))
  else (
  if x1 = 2 then (
  some (M2.1 36 3, M2))
  else (
  if x1 = 3 then (
  some (100 + (M2.1 36 4), M2))
  else (
  if x1 = 4 then (
  some (M2.1 37 24, M2))
  else (
  if x1 = 5 then (
  some (M2.1 37 25, M2))
  else (
  if x1 = 6 then (
  (fX12_hadBy 37 6 M2).bind fun (r1 : Int32) =>
  some (r1, M2))
  else (
  if x1 = 7 then (
  (fX12_those 37 1 M2).bind fun (r2 : Int32) =>
  some (r2, M2))
  else (
  if x1 = 8 then (
  (fX12_those 37 2 M2).bind fun (r3 : Int32) =>
  some (r3, M2))
  else (
  if x1 = 9 then (
  some (M2.1 36 32, M2))
  else (
  if x1 = 10 then (
  some (M2.1 36 25, M2))
  else (
  if x1 = 11 then (
  some (M2.1 36 11, M2))
  else (
  if x1 = 12 then (
  some (M2.1 36 9, M2))
  else (
  some ((-1), M2))))))))))))))
set_option maxHeartbeats 4000000 in
theorem cX12_count_ok {E : zE} {d : Nat} (hd : 1 ≤ d) (x1 : Int32) (M : zM) {K : (Int32 × zM) → Prop} (h : wpO (fX12_count x1 M) K) : CMi E d yX12_count cX12_count 2 (some .int) [.ref 36, .int x1] M (fun r N => K (r, N)) := by
  refine CMi.of (by decide) (Nat.le_of_ble_eq_true rfl) (fun Γ hC hr => ?_)
  have hC : Cx E Γ RX12 cX12_count 2 d := hC
  show G E Γ 2 0 [(0, .ref 36), (1, .int x1)] [] M
  unfold fX12_count at h
  refine g_aload_n (i := 0) (x := 36) hC (dX12_count_0) rfl rfl ?_
  refine g_iconst (v := 0) hC (dX12_count_1) kc_0 ?_
  refine g_putI hC fpX12_86 (dX12_count_2) rfl rfl rfl rfl ?_
  refine g_nmM (fun M2 e_M2 => ?_)
  have h := wpO_n e_M2 h
  refine g_iload_n (i := 1) (x := x1) hC (dX12_count_5) rfl rfl ?_
  rcases Decidable.em (x1 = 0) with c6_0 | c6_0
  · have h := wpO_t c6_0 h
    refine g_tswIn (tgt := 72) (off := 66) hC (dX12_count_6) 0 c6_0 (by decide +kernel) (by decide +kernel) (by decide +kernel) (by decide +kernel) ?_
    refine g_aload_n (i := 0) (x := 36) hC (dX12_count_72) rfl rfl ?_
    refine g_getI hC flX12_92 (dX12_count_73) rfl rfl ?_
    refine g_ireturn hC hr (dX12_count_76) ?_
    exact wpO_s h
  · have h := wpO_f c6_0 h
    rcases Decidable.em (x1 = 1) with c6_1 | c6_1
    · have h := wpO_t c6_1 h
      refine g_tswIn (tgt := 77) (off := 71) hC (dX12_count_6) 1 c6_1 (by decide +kernel) (by decide +kernel) (by decide +kernel) (by decide +kernel) ?_
      refine g_aload_n (i := 0) (x := 36) hC (dX12_count_77) rfl rfl ?_
      refine g_getI hC flX12_99 (dX12_count_78) rfl rfl ?_
      refine g_ireturn hC hr (dX12_count_81) ?_
      exact wpO_s h
    · have h := wpO_f c6_1 h
      rcases Decidable.em (x1 = 2) with c6_2 | c6_2
      · have h := wpO_t c6_2 h
        refine g_tswIn (tgt := 82) (off := 76) hC (dX12_count_6) 2 c6_2 (by decide +kernel) (by decide +kernel) (by decide +kernel) (by decide +kernel) ?_
        refine g_aload_n (i := 0) (x := 36) hC (dX12_count_82) rfl rfl ?_
        refine g_getI hC flX12_13 (dX12_count_83) rfl rfl ?_
        refine g_ireturn hC hr (dX12_count_86) ?_
        exact wpO_s h
      · have h := wpO_f c6_2 h
        rcases Decidable.em (x1 = 3) with c6_3 | c6_3
        · have h := wpO_t c6_3 h
          refine g_tswIn (tgt := 87) (off := 81) hC (dX12_count_6) 3 c6_3 (by decide +kernel) (by decide +kernel) (by decide +kernel) (by decide +kernel) ?_
          refine g_bipush (v := 100) hC (dX12_count_87) kb_100 ?_
          refine g_aload_n (i := 0) (x := 36) hC (dX12_count_89) rfl rfl ?_
          refine g_getI hC flX12_17 (dX12_count_90) rfl rfl ?_
          refine g_iadd hC (dX12_count_93) ?_
          refine g_ireturn hC hr (dX12_count_94) ?_
          exact wpO_s h
        · have h := wpO_f c6_3 h
          rcases Decidable.em (x1 = 4) with c6_4 | c6_4
          · have h := wpO_t c6_4 h
            refine g_tswIn (tgt := 95) (off := 89) hC (dX12_count_6) 4 c6_4 (by decide +kernel) (by decide +kernel) (by decide +kernel) (by decide +kernel) ?_
            refine g_aload_n (i := 0) (x := 36) hC (dX12_count_95) rfl rfl ?_
            refine g_getR (r := 37) hC flX12_9 (dX12_count_96) rfl rfl rfl ?_
            refine g_bipush (v := 24) hC (dX12_count_99) kb_24 ?_
            refine g_iaload (n := 26) hC (dX12_count_101) rfl (by decide) ?_
            refine g_ireturn hC hr (dX12_count_102) ?_
            exact wpO_s h
          · have h := wpO_f c6_4 h
            rcases Decidable.em (x1 = 5) with c6_5 | c6_5
            · have h := wpO_t c6_5 h
              refine g_tswIn (tgt := 103) (off := 97) hC (dX12_count_6) 5 c6_5 (by decide +kernel) (by decide +kernel) (by decide +kernel) (by decide +kernel) ?_
              refine g_aload_n (i := 0) (x := 36) hC (dX12_count_103) rfl rfl ?_
              refine g_getR (r := 37) hC flX12_9 (dX12_count_104) rfl rfl rfl ?_
              refine g_bipush (v := 25) hC (dX12_count_107) kb_25 ?_
              refine g_iaload (n := 26) hC (dX12_count_109) rfl (by decide) ?_
              refine g_ireturn hC hr (dX12_count_110) ?_
              exact wpO_s h
            · have h := wpO_f c6_5 h
              rcases Decidable.em (x1 = 6) with c6_6 | c6_6
              · have h := wpO_t c6_6 h
                refine g_tswIn (tgt := 111) (off := 105) hC (dX12_count_6) 6 c6_6 (by decide +kernel) (by decide +kernel) (by decide +kernel) (by decide +kernel) ?_
                refine g_aload_n (i := 0) (x := 36) hC (dX12_count_111) rfl rfl ?_
                refine g_aload_n (i := 0) (x := 36) hC (dX12_count_112) rfl rfl ?_
                refine g_getR (r := 37) hC flX12_9 (dX12_count_113) rfl rfl rfl ?_
                refine g_bipush (v := 6) hC (dX12_count_116) kb_6 ?_
                have h := wpO_b h
                refine g_callVi ([.ref 37, .int 6]) hC wvX12_213 (dX12_count_118) rfl rfl (by omega) (Nat.le_of_ble_eq_true rfl) (cX12_hadBy_ok (by omega) 37 6 M2 h) (fun r1 N q => ?_)
                obtain ⟨rfl, h⟩ := q
                refine g_ireturn hC hr (dX12_count_121) ?_
                exact wpO_s h
              · have h := wpO_f c6_6 h
                rcases Decidable.em (x1 = 7) with c6_7 | c6_7
                · have h := wpO_t c6_7 h
                  refine g_tswIn (tgt := 122) (off := 116) hC (dX12_count_6) 7 c6_7 (by decide +kernel) (by decide +kernel) (by decide +kernel) (by decide +kernel) ?_
                  refine g_aload_n (i := 0) (x := 36) hC (dX12_count_122) rfl rfl ?_
                  refine g_aload_n (i := 0) (x := 36) hC (dX12_count_123) rfl rfl ?_
                  refine g_getR (r := 37) hC flX12_9 (dX12_count_124) rfl rfl rfl ?_
                  refine g_iconst (v := 1) hC (dX12_count_127) kc_1 ?_
                  have h := wpO_b h
                  refine g_callVi ([.ref 37, .int 1]) hC wvX12_209 (dX12_count_128) rfl rfl (by omega) (Nat.le_of_ble_eq_true rfl) (cX12_those_ok (by omega) 37 1 M2 h) (fun r2 N q => ?_)
                  obtain ⟨rfl, h⟩ := q
                  refine g_ireturn hC hr (dX12_count_131) ?_
                  exact wpO_s h
                · have h := wpO_f c6_7 h
                  rcases Decidable.em (x1 = 8) with c6_8 | c6_8
                  · have h := wpO_t c6_8 h
                    refine g_tswIn (tgt := 132) (off := 126) hC (dX12_count_6) 8 c6_8 (by decide +kernel) (by decide +kernel) (by decide +kernel) (by decide +kernel) ?_
                    refine g_aload_n (i := 0) (x := 36) hC (dX12_count_132) rfl rfl ?_
                    refine g_aload_n (i := 0) (x := 36) hC (dX12_count_133) rfl rfl ?_
                    refine g_getR (r := 37) hC flX12_9 (dX12_count_134) rfl rfl rfl ?_
                    refine g_iconst (v := 2) hC (dX12_count_137) kc_2 ?_
                    have h := wpO_b h
                    refine g_callVi ([.ref 37, .int 2]) hC wvX12_209 (dX12_count_138) rfl rfl (by omega) (Nat.le_of_ble_eq_true rfl) (cX12_those_ok (by omega) 37 2 M2 h) (fun r3 N q => ?_)
                    obtain ⟨rfl, h⟩ := q
                    refine g_ireturn hC hr (dX12_count_141) ?_
                    exact wpO_s h
                  · have h := wpO_f c6_8 h
                    rcases Decidable.em (x1 = 9) with c6_9 | c6_9
                    · have h := wpO_t c6_9 h
                      refine g_tswIn (tgt := 142) (off := 136) hC (dX12_count_6) 9 c6_9 (by decide +kernel) (by decide +kernel) (by decide +kernel) (by decide +kernel) ?_
                      refine g_aload_n (i := 0) (x := 36) hC (dX12_count_142) rfl rfl ?_
                      refine g_getI hC flX12_309 (dX12_count_143) rfl rfl ?_
                      refine g_ireturn hC hr (dX12_count_146) ?_
                      exact wpO_s h
                    · have h := wpO_f c6_9 h
                      rcases Decidable.em (x1 = 10) with c6_10 | c6_10
                      · have h := wpO_t c6_10 h
                        refine g_tswIn (tgt := 147) (off := 141) hC (dX12_count_6) 10 c6_10 (by decide +kernel) (by decide +kernel) (by decide +kernel) (by decide +kernel) ?_
                        refine g_aload_n (i := 0) (x := 36) hC (dX12_count_147) rfl rfl ?_
                        refine g_getI hC flX12_144 (dX12_count_148) rfl rfl ?_
                        refine g_ireturn hC hr (dX12_count_151) ?_
                        exact wpO_s h
                      · have h := wpO_f c6_10 h
                        rcases Decidable.em (x1 = 11) with c6_11 | c6_11
                        · have h := wpO_t c6_11 h
                          refine g_tswIn (tgt := 152) (off := 146) hC (dX12_count_6) 11 c6_11 (by decide +kernel) (by decide +kernel) (by decide +kernel) (by decide +kernel) ?_
                          refine g_aload_n (i := 0) (x := 36) hC (dX12_count_152) rfl rfl ?_
                          refine g_getI hC flX12_89 (dX12_count_153) rfl rfl ?_
                          refine g_ireturn hC hr (dX12_count_156) ?_
                          exact wpO_s h
                        · have h := wpO_f c6_11 h
                          rcases Decidable.em (x1 = 12) with c6_12 | c6_12
                          · have h := wpO_t c6_12 h
                            refine g_tswIn (tgt := 157) (off := 151) hC (dX12_count_6) 12 c6_12 (by decide +kernel) (by decide +kernel) (by decide +kernel) (by decide +kernel) ?_
                            refine g_aload_n (i := 0) (x := 36) hC (dX12_count_157) rfl rfl ?_
                            refine g_getI hC flX12_102 (dX12_count_158) rfl rfl ?_
                            refine g_ireturn hC hr (dX12_count_161) ?_
                            exact wpO_s h
                          · have h := wpO_f c6_12 h
                            have zc6_0 : ¬ (x1).toInt = 0 := fun z => c6_0 (Int32.toInt_inj.mp (z.trans (by decide +kernel)))
                            have zc6_1 : ¬ (x1).toInt = 1 := fun z => c6_1 (Int32.toInt_inj.mp (z.trans (by decide +kernel)))
                            have zc6_2 : ¬ (x1).toInt = 2 := fun z => c6_2 (Int32.toInt_inj.mp (z.trans (by decide +kernel)))
                            have zc6_3 : ¬ (x1).toInt = 3 := fun z => c6_3 (Int32.toInt_inj.mp (z.trans (by decide +kernel)))
                            have zc6_4 : ¬ (x1).toInt = 4 := fun z => c6_4 (Int32.toInt_inj.mp (z.trans (by decide +kernel)))
                            have zc6_5 : ¬ (x1).toInt = 5 := fun z => c6_5 (Int32.toInt_inj.mp (z.trans (by decide +kernel)))
                            have zc6_6 : ¬ (x1).toInt = 6 := fun z => c6_6 (Int32.toInt_inj.mp (z.trans (by decide +kernel)))
                            have zc6_7 : ¬ (x1).toInt = 7 := fun z => c6_7 (Int32.toInt_inj.mp (z.trans (by decide +kernel)))
                            have zc6_8 : ¬ (x1).toInt = 8 := fun z => c6_8 (Int32.toInt_inj.mp (z.trans (by decide +kernel)))
                            have zc6_9 : ¬ (x1).toInt = 9 := fun z => c6_9 (Int32.toInt_inj.mp (z.trans (by decide +kernel)))
                            have zc6_10 : ¬ (x1).toInt = 10 := fun z => c6_10 (Int32.toInt_inj.mp (z.trans (by decide +kernel)))
                            have zc6_11 : ¬ (x1).toInt = 11 := fun z => c6_11 (Int32.toInt_inj.mp (z.trans (by decide +kernel)))
                            have zc6_12 : ¬ (x1).toInt = 12 := fun z => c6_12 (Int32.toInt_inj.mp (z.trans (by decide +kernel)))
                            refine g_tswOut (tgt := 162) hC (dX12_count_6) (by omega) (by decide +kernel) ?_
                            refine g_iconst (v := (-1)) hC (dX12_count_162) kc_m1 ?_
                            refine g_ireturn hC hr (dX12_count_163) ?_
                            exact wpO_s h
/-! LostByStateModel.row(I)J -/
theorem dX12_row_0 : decode cX12_row 0 = .ok (.aload_n 0, 1) := by decide +kernel
theorem dX12_row_1 : decode cX12_row 1 = .ok (.iconst 0, 1) := by decide +kernel
theorem dX12_row_2 : decode cX12_row 2 = .ok (.putfield 86, 3) := by decide +kernel
theorem dX12_row_5 : decode cX12_row 5 = .ok (.iload_n 1, 1) := by decide +kernel
theorem dX12_row_6 : decode cX12_row 6 = .ok (.iconst 0, 1) := by decide +kernel
theorem dX12_row_7 : decode cX12_row 7 = .ok (.aload_n 0, 1) := by decide +kernel
theorem dX12_row_8 : decode cX12_row 8 = .ok (.getfield 89, 3) := by decide +kernel
theorem dX12_row_11 : decode cX12_row 11 = .ok (.iconst 1, 1) := by decide +kernel
theorem dX12_row_12 : decode cX12_row 12 = .ok (.isub, 1) := by decide +kernel
theorem dX12_row_13 : decode cX12_row 13 = .ok (.invokestatic 95, 3) := by decide +kernel
theorem dX12_row_16 : decode cX12_row 16 = .ok (.ifCond .eq 12, 3) := by decide +kernel
theorem dX12_row_19 : decode cX12_row 19 = .ok (.aload_n 0, 1) := by decide +kernel
theorem dX12_row_20 : decode cX12_row 20 = .ok (.getfield 33, 3) := by decide +kernel
theorem dX12_row_23 : decode cX12_row 23 = .ok (.iload_n 1, 1) := by decide +kernel
theorem dX12_row_24 : decode cX12_row 24 = .ok (.laload, 1) := by decide +kernel
theorem dX12_row_25 : decode cX12_row 25 = .ok (.goto 8, 3) := by decide +kernel
theorem dX12_row_28 : decode cX12_row 28 = .ok (.aload_n 0, 1) := by decide +kernel
theorem dX12_row_29 : decode cX12_row 29 = .ok (.invokevirtual 224, 3) := by decide +kernel
theorem dX12_row_32 : decode cX12_row 32 = .ok (.i2l, 1) := by decide +kernel
theorem dX12_row_33 : decode cX12_row 33 = .ok (.lreturn, 1) := by decide +kernel
def fX12_row (x1 : Int32) (M : zM) : Option (Int64 × zM) := zlet (zSI M 36 12 0) fun (M2 : zM) =>
  if (fX12_in x1 0 ((M2.1 36 11) - 1)) = 0 then (
  zlet ((fX12_lost M2).2) fun (M29 : zM) =>
  some (((fX12_lost M2).1).toInt64, M29))
  else (
  if zin x1 16 then (
  some (M2.2.1 42 x1.toNatClampNeg, M2)) else none)
set_option maxHeartbeats 4000000 in
theorem cX12_row_ok {E : zE} {d : Nat} (hd : 1 ≤ d) (x1 : Int32) (M : zM) {K : (Int64 × zM) → Prop} (h : wpO (fX12_row x1 M) K) : CMl E d yX12_row cX12_row 2 (some .long) [.ref 36, .int x1] M (fun r N => K (r, N)) := by
  refine CMl.of (by decide) (Nat.le_of_ble_eq_true rfl) (fun Γ hC hr => ?_)
  have hC : Cx E Γ RX12 cX12_row 2 d := hC
  show G E Γ 2 0 [(0, .ref 36), (1, .int x1)] [] M
  unfold fX12_row at h
  refine g_aload_n (i := 0) (x := 36) hC (dX12_row_0) rfl rfl ?_
  refine g_iconst (v := 0) hC (dX12_row_1) kc_0 ?_
  refine g_putI hC fpX12_86 (dX12_row_2) rfl rfl rfl rfl ?_
  refine g_nmM (fun M2 e_M2 => ?_)
  have h := wpO_n e_M2 h
  refine g_iload_n (i := 1) (x := x1) hC (dX12_row_5) rfl rfl ?_
  refine g_iconst (v := 0) hC (dX12_row_6) kc_0 ?_
  refine g_aload_n (i := 0) (x := 36) hC (dX12_row_7) rfl rfl ?_
  refine g_getI hC flX12_89 (dX12_row_8) rfl rfl ?_
  refine g_iconst (v := 1) hC (dX12_row_11) kc_1 ?_
  refine g_isub hC (dX12_row_12) ?_
  refine g_callSi ([.int x1, .int 0, .int ((M2.1 36 11) - 1)]) hC wsX12_95 (dX12_row_13) rfl (by omega) (Nat.le_of_ble_eq_true rfl) (cX12_in_ok (by omega) x1 0 ((M2.1 36 11) - 1) M2 (K := fun r => r = fX12_in x1 0 ((M2.1 36 11) - 1)) rfl) (fun r N q => ?_)
  obtain ⟨rfl, rfl⟩ := q
  refine g_if_eq (tgt := 28) hC (dX12_row_16) (by decide) (fun c16 => ?_) (fun c16 => ?_)
  · have h := wpO_t c16 h
    refine g_aload_n (i := 0) (x := 36) hC (dX12_row_28) rfl rfl ?_
    refine g_callVi ([]) hC wvX12_224 (dX12_row_29) rfl rfl (by omega) (Nat.le_of_ble_eq_true rfl) (cX12_lost_ok (by omega) M2 (K := fun r => r = fX12_lost M2) rfl) (fun r N q => ?_)
    obtain ⟨rfl, rfl⟩ : r = (fX12_lost M2).1 ∧ N = (fX12_lost M2).2 := ⟨congrArg Prod.fst q, congrArg Prod.snd q⟩
    refine g_nmM (fun M29 e_M29 => ?_)
    have h := wpO_n e_M29 h
    refine g_i2l hC (dX12_row_32) ?_
    refine g_lreturn hC hr (dX12_row_33) ?_
    exact wpO_s h
  · have h := wpO_f c16 h
    refine g_aload_n (i := 0) (x := 36) hC (dX12_row_19) rfl rfl ?_
    refine g_getR (r := 42) hC flX12_33 (dX12_row_20) rfl rfl rfl ?_
    refine g_iload_n (i := 1) (x := x1) hC (dX12_row_23) rfl rfl ?_
    obtain ⟨q3, h⟩ := wpO_g h
    refine g_laload (n := 16) hC (dX12_row_24) rfl q3 ?_
    refine g_goto (tgt := 33) hC (dX12_row_25) (by decide) ?_
    refine g_lreturn hC hr (dX12_row_33) ?_
    exact wpO_s h
