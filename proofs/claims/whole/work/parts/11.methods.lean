/-! LostByState$RuleReader.readComparison(I)Z -/
theorem dX5_readComparison_0 : decode cX5_readComparison 0 = .ok (.aload_n 0, 1) := by decide +kernel
theorem dX5_readComparison_1 : decode cX5_readComparison 1 = .ok (.iload_n 1, 1) := by decide +kernel
theorem dX5_readComparison_2 : decode cX5_readComparison 2 = .ok (.invokevirtual 50, 3) := by decide +kernel
theorem dX5_readComparison_5 : decode cX5_readComparison 5 = .ok (.ifCond .ne 5, 3) := by decide +kernel
theorem dX5_readComparison_8 : decode cX5_readComparison 8 = .ok (.iconst 0, 1) := by decide +kernel
theorem dX5_readComparison_9 : decode cX5_readComparison 9 = .ok (.ireturn, 1) := by decide +kernel
theorem dX5_readComparison_10 : decode cX5_readComparison 10 = .ok (.aload_n 0, 1) := by decide +kernel
theorem dX5_readComparison_11 : decode cX5_readComparison 11 = .ok (.invokevirtual 53, 3) := by decide +kernel
theorem dX5_readComparison_14 : decode cX5_readComparison 14 = .ok (.istore_n 2, 1) := by decide +kernel
theorem dX5_readComparison_15 : decode cX5_readComparison 15 = .ok (.iload_n 2, 1) := by decide +kernel
theorem dX5_readComparison_16 : decode cX5_readComparison 16 = .ok (.bipush 60, 2) := by decide +kernel
theorem dX5_readComparison_18 : decode cX5_readComparison 18 = .ok (.if_icmp .eq 17, 3) := by decide +kernel
theorem dX5_readComparison_21 : decode cX5_readComparison 21 = .ok (.iload_n 2, 1) := by decide +kernel
theorem dX5_readComparison_22 : decode cX5_readComparison 22 = .ok (.bipush 62, 2) := by decide +kernel
theorem dX5_readComparison_24 : decode cX5_readComparison 24 = .ok (.if_icmp .eq 11, 3) := by decide +kernel
theorem dX5_readComparison_27 : decode cX5_readComparison 27 = .ok (.iload_n 2, 1) := by decide +kernel
theorem dX5_readComparison_28 : decode cX5_readComparison 28 = .ok (.bipush 61, 2) := by decide +kernel
theorem dX5_readComparison_30 : decode cX5_readComparison 30 = .ok (.if_icmp .eq 5, 3) := by decide +kernel
theorem dX5_readComparison_33 : decode cX5_readComparison 33 = .ok (.iconst 1, 1) := by decide +kernel
theorem dX5_readComparison_34 : decode cX5_readComparison 34 = .ok (.ireturn, 1) := by decide +kernel
theorem dX5_readComparison_35 : decode cX5_readComparison 35 = .ok (.aload_n 0, 1) := by decide +kernel
theorem dX5_readComparison_36 : decode cX5_readComparison 36 = .ok (.dup, 1) := by decide +kernel
theorem dX5_readComparison_37 : decode cX5_readComparison 37 = .ok (.getfield 15, 3) := by decide +kernel
theorem dX5_readComparison_40 : decode cX5_readComparison 40 = .ok (.iconst 1, 1) := by decide +kernel
theorem dX5_readComparison_41 : decode cX5_readComparison 41 = .ok (.iadd, 1) := by decide +kernel
theorem dX5_readComparison_42 : decode cX5_readComparison 42 = .ok (.putfield 15, 3) := by decide +kernel
theorem dX5_readComparison_45 : decode cX5_readComparison 45 = .ok (.aload_n 0, 1) := by decide +kernel
theorem dX5_readComparison_46 : decode cX5_readComparison 46 = .ok (.iload_n 1, 1) := by decide +kernel
theorem dX5_readComparison_47 : decode cX5_readComparison 47 = .ok (.invokevirtual 50, 3) := by decide +kernel
theorem dX5_readComparison_50 : decode cX5_readComparison 50 = .ok (.ifCond .ne 5, 3) := by decide +kernel
theorem dX5_readComparison_53 : decode cX5_readComparison 53 = .ok (.iconst 0, 1) := by decide +kernel
theorem dX5_readComparison_54 : decode cX5_readComparison 54 = .ok (.ireturn, 1) := by decide +kernel
theorem dX5_readComparison_55 : decode cX5_readComparison 55 = .ok (.aload_n 0, 1) := by decide +kernel
theorem dX5_readComparison_56 : decode cX5_readComparison 56 = .ok (.getfield 22, 3) := by decide +kernel
theorem dX5_readComparison_59 : decode cX5_readComparison 59 = .ok (.sipush 2000, 3) := by decide +kernel
theorem dX5_readComparison_62 : decode cX5_readComparison 62 = .ok (.iload_n 2, 1) := by decide +kernel
theorem dX5_readComparison_63 : decode cX5_readComparison 63 = .ok (.iadd, 1) := by decide +kernel
theorem dX5_readComparison_64 : decode cX5_readComparison 64 = .ok (.invokevirtual 57, 3) := by decide +kernel
theorem dX5_readComparison_67 : decode cX5_readComparison 67 = .ok (.iconst 1, 1) := by decide +kernel
theorem dX5_readComparison_68 : decode cX5_readComparison 68 = .ok (.ireturn, 1) := by decide +kernel
def fX5_readComparison (rec : Nat → Int32 → zM → Option (Int32 × zM)) (x1 : Int32) (M : zM) : Option (Int32 × zM) := (rec 1 x1 M).bind fun (q : Int32 × zM) => zp q fun r1 M2 =>
  if r1 = 0 then (
  some (0, M2))
  else (
  (fX5_seen M2).bind fun (r2 : Int32) =>
  zj (fun (_ : Unit) =>
  zlet (zSI M2 21 3 ((M2.1 21 3) + 1)) fun (M42 : zM) =>
  (rec 1 x1 M42).bind fun (q : Int32 × zM) => zp q fun r4 M47 =>
  if r4 = 0 then (
  some (0, M47))
  else (
  (fX4_add 17 (2000 + r2) M47).bind fun (M64 : zM) =>
  some (1, M64)))
  fun J3 =>
  if r2 = 60 then (
  J3 ())
  else (
  if r2 = 62 then (
  J3 ())
  else (
  if r2 = 61 then (
  J3 ())
  else (
  some (1, M2)))))
set_option maxHeartbeats 4000000 in
theorem cX5_readComparison_ok {E : zE} {d : Nat} (hd : 2 ≤ d) {rec : Nat → Int32 → zM → Option (Int32 × zM)} (hrec0 : ∀ (x1 : Int32) (M : zM) {K : (Int32 × zM) → Prop}, wpO (rec 0 x1 M) K → CMi E (d - 1) yX5_readComparison cX5_readComparison 3 (some .boolean) [.ref 21, .int x1] M (fun r N => K (r, N))) (hrec1 : ∀ (x1 : Int32) (M : zM) {K : (Int32 × zM) → Prop}, wpO (rec 1 x1 M) K → CMi E (d - 1) yX5_readSum cX5_readSum 5 (some .boolean) [.ref 21, .int x1] M (fun r N => K (r, N))) (hrec2 : ∀ (x1 : Int32) (M : zM) {K : (Int32 × zM) → Prop}, wpO (rec 2 x1 M) K → CMi E (d - 1) yX5_readProduct cX5_readProduct 5 (some .boolean) [.ref 21, .int x1] M (fun r N => K (r, N))) (hrec3 : ∀ (x1 : Int32) (M : zM) {K : (Int32 × zM) → Prop}, wpO (rec 3 x1 M) K → CMi E (d - 1) yX5_readSigned cX5_readSigned 4 (some .boolean) [.ref 21, .int x1] M (fun r N => K (r, N))) (hrec4 : ∀ (x1 : Int32) (M : zM) {K : (Int32 × zM) → Prop}, wpO (rec 4 x1 M) K → CMi E (d - 1) yX5_readInBrackets cX5_readInBrackets 2 (some .boolean) [.ref 21, .int x1] M (fun r N => K (r, N))) (x1 : Int32) (M : zM) {K : (Int32 × zM) → Prop} (h : wpO (fX5_readComparison rec x1 M) K) : CMi E d yX5_readComparison cX5_readComparison 3 (some .boolean) [.ref 21, .int x1] M (fun r N => K (r, N)) := by
  refine CMi.of (by decide) (Nat.le_of_ble_eq_true rfl) (fun Γ hC hr => ?_)
  have hC : Cx E Γ RX5 cX5_readComparison 3 d := hC
  show G E Γ 3 0 [(0, .ref 21), (1, .int x1)] [] M
  unfold fX5_readComparison at h
  refine g_aload_n (i := 0) (x := 21) hC (dX5_readComparison_0) rfl rfl ?_
  refine g_iload_n (i := 1) (x := x1) hC (dX5_readComparison_1) rfl rfl ?_
  have h := wpO_b h
  refine g_callVi ([.int x1]) hC wvX5_50 (dX5_readComparison_2) rfl rfl (by omega) (Nat.le_of_ble_eq_true rfl) (hrec1 x1 M h) (fun r1 M2 h => ?_)
  have h := wpO_p h
  refine g_if_ne (tgt := 10) hC (dX5_readComparison_5) (by decide) (fun c5 => ?_) (fun c5 => ?_)
  · have h := wpO_f c5 h
    refine g_aload_n (i := 0) (x := 21) hC (dX5_readComparison_10) rfl rfl ?_
    have h := wpO_b h
    refine g_callVi ([]) hC wvX5_53 (dX5_readComparison_11) rfl rfl (by omega) (Nat.le_of_ble_eq_true rfl) (cX5_seen_ok (by omega) M2 h) (fun r2 N q => ?_)
    obtain ⟨rfl, h⟩ := q
    refine g_istore_n (i := 2) (lv2 := [(2, .int r2), (0, .ref 21), (1, .int x1)]) hC (dX5_readComparison_14) rfl (by decide) rfl ?_
    refine g_iload_n (i := 2) (x := r2) hC (dX5_readComparison_15) rfl rfl ?_
    refine g_bipush (v := 60) hC (dX5_readComparison_16) kb_60 ?_
    refine wpO_j h (fun J3 hkJ3 h => ?_)
    have hJ3 : ∀ (_ : Unit), wpO (J3 ()) K → G E Γ 3 35 [(0, .ref 21), (1, .int x1), (2, .int r2)] [] M2 := by
      intro _ h
      have h := hkJ3 _ h
      refine g_aload_n (i := 0) (x := 21) hC (dX5_readComparison_35) rfl rfl ?_
      refine g_dup hC (dX5_readComparison_36) rfl ?_
      refine g_getI hC flX5_15 (dX5_readComparison_37) rfl rfl ?_
      refine g_iconst (v := 1) hC (dX5_readComparison_40) kc_1 ?_
      refine g_iadd hC (dX5_readComparison_41) ?_
      refine g_putI hC fpX5_15 (dX5_readComparison_42) rfl rfl rfl rfl ?_
      refine g_nmM (fun M42 e_M42 => ?_)
      have h := wpO_n e_M42 h
      refine g_aload_n (i := 0) (x := 21) hC (dX5_readComparison_45) rfl rfl ?_
      refine g_iload_n (i := 1) (x := x1) hC (dX5_readComparison_46) rfl rfl ?_
      have h := wpO_b h
      refine g_callVi ([.int x1]) hC wvX5_50 (dX5_readComparison_47) rfl rfl (by omega) (Nat.le_of_ble_eq_true rfl) (hrec1 x1 M42 h) (fun r4 M47 h => ?_)
      have h := wpO_p h
      refine g_if_ne (tgt := 55) hC (dX5_readComparison_50) (by decide) (fun c50 => ?_) (fun c50 => ?_)
      · have h := wpO_f c50 h
        refine g_aload_n (i := 0) (x := 21) hC (dX5_readComparison_55) rfl rfl ?_
        refine g_getR (r := 17) hC flX5_22 (dX5_readComparison_56) rfl rfl rfl ?_
        refine g_sipush (v := 2000) hC (dX5_readComparison_59) ks_2000 ?_
        refine g_iload_n (i := 2) (x := r2) hC (dX5_readComparison_62) rfl rfl ?_
        refine g_iadd hC (dX5_readComparison_63) ?_
        have h := wpO_b h
        refine g_callVv ([.int (2000 + r2)]) hC wvX5_57 (dX5_readComparison_64) rfl rfl (by omega) (Nat.le_of_ble_eq_true rfl) (cX4_add_ok (by omega) 17 (2000 + r2) M47 h) (fun M64 h => ?_)
        refine g_iconst (v := 1) hC (dX5_readComparison_67) kc_1 ?_
        refine g_zreturn hC hr (dX5_readComparison_68) (Or.inr rfl) ?_
        exact wpO_s h
      · have h := wpO_t c50 h
        refine g_iconst (v := 0) hC (dX5_readComparison_53) kc_0 ?_
        refine g_zreturn hC hr (dX5_readComparison_54) (Or.inl rfl) ?_
        exact wpO_s h
    refine g_icmp_eq (tgt := 35) hC (dX5_readComparison_18) (by decide) (fun c18 => ?_) (fun c18 => ?_)
    · have h := wpO_t c18 h
      refine g_sub (lv' := [(0, .ref 21), (1, .int x1), (2, .int r2)]) [1, 2, 0] rfl ?_
      exact hJ3 () h
    · have h := wpO_f c18 h
      refine g_iload_n (i := 2) (x := r2) hC (dX5_readComparison_21) rfl rfl ?_
      refine g_bipush (v := 62) hC (dX5_readComparison_22) kb_62 ?_
      refine g_icmp_eq (tgt := 35) hC (dX5_readComparison_24) (by decide) (fun c24 => ?_) (fun c24 => ?_)
      · have h := wpO_t c24 h
        refine g_sub (lv' := [(0, .ref 21), (1, .int x1), (2, .int r2)]) [1, 2, 0] rfl ?_
        exact hJ3 () h
      · have h := wpO_f c24 h
        refine g_iload_n (i := 2) (x := r2) hC (dX5_readComparison_27) rfl rfl ?_
        refine g_bipush (v := 61) hC (dX5_readComparison_28) kb_61 ?_
        refine g_icmp_eq (tgt := 35) hC (dX5_readComparison_30) (by decide) (fun c30 => ?_) (fun c30 => ?_)
        · have h := wpO_t c30 h
          refine g_sub (lv' := [(0, .ref 21), (1, .int x1), (2, .int r2)]) [1, 2, 0] rfl ?_
          exact hJ3 () h
        · have h := wpO_f c30 h
          refine g_iconst (v := 1) hC (dX5_readComparison_33) kc_1 ?_
          refine g_zreturn hC hr (dX5_readComparison_34) (Or.inr rfl) ?_
          exact wpO_s h
  · have h := wpO_t c5 h
    refine g_iconst (v := 0) hC (dX5_readComparison_8) kc_0 ?_
    refine g_zreturn hC hr (dX5_readComparison_9) (Or.inl rfl) ?_
    exact wpO_s h
/-! LostByState$RuleReader.readSum(I)Z -/
theorem dX5_readSum_0 : decode cX5_readSum 0 = .ok (.aload_n 0, 1) := by decide +kernel
theorem dX5_readSum_1 : decode cX5_readSum 1 = .ok (.iload_n 1, 1) := by decide +kernel
theorem dX5_readSum_2 : decode cX5_readSum 2 = .ok (.invokevirtual 61, 3) := by decide +kernel
theorem dX5_readSum_5 : decode cX5_readSum 5 = .ok (.istore_n 2, 1) := by decide +kernel
theorem dX5_readSum_6 : decode cX5_readSum 6 = .ok (.iconst 0, 1) := by decide +kernel
theorem dX5_readSum_7 : decode cX5_readSum 7 = .ok (.istore_n 3, 1) := by decide +kernel
theorem dX5_readSum_8 : decode cX5_readSum 8 = .ok (.iload_n 3, 1) := by decide +kernel
theorem dX5_readSum_9 : decode cX5_readSum 9 = .ok (.bipush 40, 2) := by decide +kernel
theorem dX5_readSum_11 : decode cX5_readSum 11 = .ok (.if_icmp .ge 66, 3) := by decide +kernel
theorem dX5_readSum_14 : decode cX5_readSum 14 = .ok (.iload_n 2, 1) := by decide +kernel
theorem dX5_readSum_15 : decode cX5_readSum 15 = .ok (.ifCond .eq 62, 3) := by decide +kernel
theorem dX5_readSum_18 : decode cX5_readSum 18 = .ok (.aload_n 0, 1) := by decide +kernel
theorem dX5_readSum_19 : decode cX5_readSum 19 = .ok (.invokevirtual 53, 3) := by decide +kernel
theorem dX5_readSum_22 : decode cX5_readSum 22 = .ok (.bipush 43, 2) := by decide +kernel
theorem dX5_readSum_24 : decode cX5_readSum 24 = .ok (.if_icmp .eq 12, 3) := by decide +kernel
theorem dX5_readSum_27 : decode cX5_readSum 27 = .ok (.aload_n 0, 1) := by decide +kernel
theorem dX5_readSum_28 : decode cX5_readSum 28 = .ok (.invokevirtual 53, 3) := by decide +kernel
theorem dX5_readSum_31 : decode cX5_readSum 31 = .ok (.bipush 45, 2) := by decide +kernel
theorem dX5_readSum_33 : decode cX5_readSum 33 = .ok (.if_icmp .ne 44, 3) := by decide +kernel
theorem dX5_readSum_36 : decode cX5_readSum 36 = .ok (.aload_n 0, 1) := by decide +kernel
theorem dX5_readSum_37 : decode cX5_readSum 37 = .ok (.invokevirtual 53, 3) := by decide +kernel
theorem dX5_readSum_40 : decode cX5_readSum 40 = .ok (.istore 4, 2) := by decide +kernel
theorem dX5_readSum_42 : decode cX5_readSum 42 = .ok (.aload_n 0, 1) := by decide +kernel
theorem dX5_readSum_43 : decode cX5_readSum 43 = .ok (.dup, 1) := by decide +kernel
theorem dX5_readSum_44 : decode cX5_readSum 44 = .ok (.getfield 15, 3) := by decide +kernel
theorem dX5_readSum_47 : decode cX5_readSum 47 = .ok (.iconst 1, 1) := by decide +kernel
theorem dX5_readSum_48 : decode cX5_readSum 48 = .ok (.iadd, 1) := by decide +kernel
theorem dX5_readSum_49 : decode cX5_readSum 49 = .ok (.putfield 15, 3) := by decide +kernel
theorem dX5_readSum_52 : decode cX5_readSum 52 = .ok (.aload_n 0, 1) := by decide +kernel
theorem dX5_readSum_53 : decode cX5_readSum 53 = .ok (.iload_n 1, 1) := by decide +kernel
theorem dX5_readSum_54 : decode cX5_readSum 54 = .ok (.invokevirtual 61, 3) := by decide +kernel
theorem dX5_readSum_57 : decode cX5_readSum 57 = .ok (.istore_n 2, 1) := by decide +kernel
theorem dX5_readSum_58 : decode cX5_readSum 58 = .ok (.aload_n 0, 1) := by decide +kernel
theorem dX5_readSum_59 : decode cX5_readSum 59 = .ok (.getfield 22, 3) := by decide +kernel
theorem dX5_readSum_62 : decode cX5_readSum 62 = .ok (.sipush 2000, 3) := by decide +kernel
theorem dX5_readSum_65 : decode cX5_readSum 65 = .ok (.iload 4, 2) := by decide +kernel
theorem dX5_readSum_67 : decode cX5_readSum 67 = .ok (.iadd, 1) := by decide +kernel
theorem dX5_readSum_68 : decode cX5_readSum 68 = .ok (.invokevirtual 57, 3) := by decide +kernel
theorem dX5_readSum_71 : decode cX5_readSum 71 = .ok (.iinc 3 1, 3) := by decide +kernel
theorem dX5_readSum_74 : decode cX5_readSum 74 = .ok (.goto (-66), 3) := by decide +kernel
theorem dX5_readSum_77 : decode cX5_readSum 77 = .ok (.iload_n 2, 1) := by decide +kernel
theorem dX5_readSum_78 : decode cX5_readSum 78 = .ok (.ireturn, 1) := by decide +kernel
def fX5_readSum_L8 (rec : Nat → Int32 → zM → Option (Int32 × zM)) (x1 : Int32) : Nat → Int32 → Int32 → zM → Option (Int32 × zM)
  | 0, _, _, _ => none
  | n + 1, x2, x3, M => if 40 ≤ x3 then (
    some (x2, M))
    else (
    if x2 = 0 then (
    some (x2, M))
    else (
    (fX5_seen M).bind fun (r2 : Int32) =>
    zj (fun (_ : Unit) =>
    (fX5_seen M).bind fun (r5 : Int32) =>
    zlet (zSI M 21 3 ((M.1 21 3) + 1)) fun (M49 : zM) =>
    (rec 2 x1 M49).bind fun (q : Int32 × zM) => zp q fun r6 M54 =>
    (fX4_add 17 (2000 + r5) M54).bind fun (M68 : zM) =>
    fX5_readSum_L8 rec x1 n r6 (x3 + 1) M68)
    fun J3 =>
    if r2 = 43 then (
    J3 ())
    else (
    (fX5_seen M).bind fun (r4 : Int32) =>
    if r4 = 45 then (
    J3 ())
    else (
    some (x2, M)))))
def fX5_readSum (rec : Nat → Int32 → zM → Option (Int32 × zM)) (x1 : Int32) (M : zM) : Option (Int32 × zM) := (rec 2 x1 M).bind fun (q : Int32 × zM) => zp q fun r1 M2 =>
  (fX5_readSum_L8 rec x1 4000 r1 0 M2).bind fun (q : Int32 × zM) => zp q fun x2_77 M_77 =>
  if x2_77 = 0 ∨ x2_77 = 1 then (
  some (x2_77, M_77)) else none
set_option maxHeartbeats 4000000 in
theorem lX5_readSum_8 {E : zE} {Γ : zT} {d : Nat} {K1 : (Int32 × zM) → Prop} (hC : Cx E Γ RX5 cX5_readSum 5 d) {rec : Nat → Int32 → zM → Option (Int32 × zM)} (hrec0 : ∀ (x1 : Int32) (M : zM) {K : (Int32 × zM) → Prop}, wpO (rec 0 x1 M) K → CMi E (d - 1) yX5_readComparison cX5_readComparison 3 (some .boolean) [.ref 21, .int x1] M (fun r N => K (r, N))) (hrec1 : ∀ (x1 : Int32) (M : zM) {K : (Int32 × zM) → Prop}, wpO (rec 1 x1 M) K → CMi E (d - 1) yX5_readSum cX5_readSum 5 (some .boolean) [.ref 21, .int x1] M (fun r N => K (r, N))) (hrec2 : ∀ (x1 : Int32) (M : zM) {K : (Int32 × zM) → Prop}, wpO (rec 2 x1 M) K → CMi E (d - 1) yX5_readProduct cX5_readProduct 5 (some .boolean) [.ref 21, .int x1] M (fun r N => K (r, N))) (hrec3 : ∀ (x1 : Int32) (M : zM) {K : (Int32 × zM) → Prop}, wpO (rec 3 x1 M) K → CMi E (d - 1) yX5_readSigned cX5_readSigned 4 (some .boolean) [.ref 21, .int x1] M (fun r N => K (r, N))) (hrec4 : ∀ (x1 : Int32) (M : zM) {K : (Int32 × zM) → Prop}, wpO (rec 4 x1 M) K → CMi E (d - 1) yX5_readInBrackets cX5_readInBrackets 2 (some .boolean) [.ref 21, .int x1] M (fun r N => K (r, N))) (hd : 2 ≤ d) (x1 : Int32) (hx : ∀ (x2_77 : Int32) (M_77 : zM), K1 (x2_77, M_77) → G E Γ 5 77 [(2, .int x2_77)] [] M_77) :
    ∀ (n : Nat) (x2 : Int32) (x3 : Int32) (M : zM), wpO (fX5_readSum_L8 rec x1 n x2 x3 M) K1 → G E Γ 5 8 [(0, .ref 21), (1, .int x1), (2, .int x2), (3, .int x3)] [] M := by
  intro n
  induction n with
  | zero =>
    intro x2 x3 M h
    exact (wpO_0 h).elim
  | succ n ih =>
    intro x2 x3 M h
    rw [fX5_readSum_L8.eq_2] at h
    refine g_iload_n (i := 3) (x := x3) hC (dX5_readSum_8) rfl rfl ?_
    refine g_bipush (v := 40) hC (dX5_readSum_9) kb_40 ?_
    refine g_icmp_ge (tgt := 77) hC (dX5_readSum_11) (by decide) (fun c11 => ?_) (fun c11 => ?_)
    · have h := wpO_t c11 h
      refine g_sub (lv' := [(2, .int x2)]) [2] rfl ?_
      exact hx _ _ (wpO_s h)
    · have h := wpO_f c11 h
      refine g_iload_n (i := 2) (x := x2) hC (dX5_readSum_14) rfl rfl ?_
      refine g_if_eq (tgt := 77) hC (dX5_readSum_15) (by decide) (fun c15 => ?_) (fun c15 => ?_)
      · have h := wpO_t c15 h
        refine g_sub (lv' := [(2, .int x2)]) [2] rfl ?_
        exact hx _ _ (wpO_s h)
      · have h := wpO_f c15 h
        refine g_aload_n (i := 0) (x := 21) hC (dX5_readSum_18) rfl rfl ?_
        have h := wpO_b h
        refine g_callVi ([]) hC wvX5_53 (dX5_readSum_19) rfl rfl (by omega) (Nat.le_of_ble_eq_true rfl) (cX5_seen_ok (by omega) M h) (fun r2 N q => ?_)
        obtain ⟨rfl, h⟩ := q
        refine g_bipush (v := 43) hC (dX5_readSum_22) kb_43 ?_
        refine wpO_j h (fun J3 hkJ3 h => ?_)
        have hJ3 : ∀ (_ : Unit), wpO (J3 ()) K1 → G E Γ 5 36 [(0, .ref 21), (1, .int x1), (3, .int x3)] [] M := by
          intro _ h
          have h := hkJ3 _ h
          refine g_aload_n (i := 0) (x := 21) hC (dX5_readSum_36) rfl rfl ?_
          have h := wpO_b h
          refine g_callVi ([]) hC wvX5_53 (dX5_readSum_37) rfl rfl (by omega) (Nat.le_of_ble_eq_true rfl) (cX5_seen_ok (by omega) M h) (fun r5 N q => ?_)
          obtain ⟨rfl, h⟩ := q
          refine g_istore (i := 4) (lv2 := [(4, .int r5), (0, .ref 21), (1, .int x1), (3, .int x3)]) hC (dX5_readSum_40) (by decide) rfl ?_
          refine g_aload_n (i := 0) (x := 21) hC (dX5_readSum_42) rfl rfl ?_
          refine g_dup hC (dX5_readSum_43) rfl ?_
          refine g_getI hC flX5_15 (dX5_readSum_44) rfl rfl ?_
          refine g_iconst (v := 1) hC (dX5_readSum_47) kc_1 ?_
          refine g_iadd hC (dX5_readSum_48) ?_
          refine g_putI hC fpX5_15 (dX5_readSum_49) rfl rfl rfl rfl ?_
          refine g_nmM (fun M49 e_M49 => ?_)
          have h := wpO_n e_M49 h
          refine g_aload_n (i := 0) (x := 21) hC (dX5_readSum_52) rfl rfl ?_
          refine g_iload_n (i := 1) (x := x1) hC (dX5_readSum_53) rfl rfl ?_
          have h := wpO_b h
          refine g_callVi ([.int x1]) hC wvX5_61 (dX5_readSum_54) rfl rfl (by omega) (Nat.le_of_ble_eq_true rfl) (hrec2 x1 M49 h) (fun r6 M54 h => ?_)
          have h := wpO_p h
          refine g_istore_n (i := 2) (lv2 := [(2, .int r6), (4, .int r5), (0, .ref 21), (1, .int x1), (3, .int x3)]) hC (dX5_readSum_57) rfl (by decide) rfl ?_
          refine g_aload_n (i := 0) (x := 21) hC (dX5_readSum_58) rfl rfl ?_
          refine g_getR (r := 17) hC flX5_22 (dX5_readSum_59) rfl rfl rfl ?_
          refine g_sipush (v := 2000) hC (dX5_readSum_62) ks_2000 ?_
          refine g_iload (i := 4) (x := r5) hC (dX5_readSum_65) rfl ?_
          refine g_iadd hC (dX5_readSum_67) ?_
          have h := wpO_b h
          refine g_callVv ([.int (2000 + r5)]) hC wvX5_57 (dX5_readSum_68) rfl rfl (by omega) (Nat.le_of_ble_eq_true rfl) (cX4_add_ok (by omega) 17 (2000 + r5) M54 h) (fun M68 h => ?_)
          refine g_iinc (x := x3) (v := (x3 + 1)) (lv2 := [(3, .int (x3 + 1)), (2, .int r6), (4, .int r5), (0, .ref 21), (1, .int x1)]) hC (dX5_readSum_71) rfl rfl (by decide) rfl ?_
          refine g_goto (tgt := 8) hC (dX5_readSum_74) (by decide) ?_
          refine g_sub (lv' := [(0, .ref 21), (1, .int x1), (2, .int r6), (3, .int (x3 + 1))]) [3, 4, 1, 0] rfl ?_
          exact ih _ _ _ h
        refine g_icmp_eq (tgt := 36) hC (dX5_readSum_24) (by decide) (fun c24 => ?_) (fun c24 => ?_)
        · have h := wpO_t c24 h
          refine g_sub (lv' := [(0, .ref 21), (1, .int x1), (3, .int x3)]) [0, 1, 3] rfl ?_
          exact hJ3 () h
        · have h := wpO_f c24 h
          refine g_aload_n (i := 0) (x := 21) hC (dX5_readSum_27) rfl rfl ?_
          have h := wpO_b h
          refine g_callVi ([]) hC wvX5_53 (dX5_readSum_28) rfl rfl (by omega) (Nat.le_of_ble_eq_true rfl) (cX5_seen_ok (by omega) M h) (fun r4 N q => ?_)
          obtain ⟨rfl, h⟩ := q
          refine g_bipush (v := 45) hC (dX5_readSum_31) kb_45 ?_
          refine g_icmp_ne (tgt := 77) hC (dX5_readSum_33) (by decide) (fun c33 => ?_) (fun c33 => ?_)
          · have h := wpO_f c33 h
            refine g_sub (lv' := [(2, .int x2)]) [2] rfl ?_
            exact hx _ _ (wpO_s h)
          · have h := wpO_t c33 h
            refine g_sub (lv' := [(0, .ref 21), (1, .int x1), (3, .int x3)]) [0, 1, 3] rfl ?_
            exact hJ3 () h
set_option maxHeartbeats 4000000 in
theorem cX5_readSum_ok {E : zE} {d : Nat} (hd : 2 ≤ d) {rec : Nat → Int32 → zM → Option (Int32 × zM)} (hrec0 : ∀ (x1 : Int32) (M : zM) {K : (Int32 × zM) → Prop}, wpO (rec 0 x1 M) K → CMi E (d - 1) yX5_readComparison cX5_readComparison 3 (some .boolean) [.ref 21, .int x1] M (fun r N => K (r, N))) (hrec1 : ∀ (x1 : Int32) (M : zM) {K : (Int32 × zM) → Prop}, wpO (rec 1 x1 M) K → CMi E (d - 1) yX5_readSum cX5_readSum 5 (some .boolean) [.ref 21, .int x1] M (fun r N => K (r, N))) (hrec2 : ∀ (x1 : Int32) (M : zM) {K : (Int32 × zM) → Prop}, wpO (rec 2 x1 M) K → CMi E (d - 1) yX5_readProduct cX5_readProduct 5 (some .boolean) [.ref 21, .int x1] M (fun r N => K (r, N))) (hrec3 : ∀ (x1 : Int32) (M : zM) {K : (Int32 × zM) → Prop}, wpO (rec 3 x1 M) K → CMi E (d - 1) yX5_readSigned cX5_readSigned 4 (some .boolean) [.ref 21, .int x1] M (fun r N => K (r, N))) (hrec4 : ∀ (x1 : Int32) (M : zM) {K : (Int32 × zM) → Prop}, wpO (rec 4 x1 M) K → CMi E (d - 1) yX5_readInBrackets cX5_readInBrackets 2 (some .boolean) [.ref 21, .int x1] M (fun r N => K (r, N))) (x1 : Int32) (M : zM) {K : (Int32 × zM) → Prop} (h : wpO (fX5_readSum rec x1 M) K) : CMi E d yX5_readSum cX5_readSum 5 (some .boolean) [.ref 21, .int x1] M (fun r N => K (r, N)) := by
  refine CMi.of (by decide) (Nat.le_of_ble_eq_true rfl) (fun Γ hC hr => ?_)
  have hC : Cx E Γ RX5 cX5_readSum 5 d := hC
  show G E Γ 5 0 [(0, .ref 21), (1, .int x1)] [] M
  unfold fX5_readSum at h
  refine g_aload_n (i := 0) (x := 21) hC (dX5_readSum_0) rfl rfl ?_
  refine g_iload_n (i := 1) (x := x1) hC (dX5_readSum_1) rfl rfl ?_
  have h := wpO_b h
  refine g_callVi ([.int x1]) hC wvX5_61 (dX5_readSum_2) rfl rfl (by omega) (Nat.le_of_ble_eq_true rfl) (hrec2 x1 M h) (fun r1 M2 h => ?_)
  have h := wpO_p h
  refine g_istore_n (i := 2) (lv2 := [(2, .int r1), (0, .ref 21), (1, .int x1)]) hC (dX5_readSum_5) rfl (by decide) rfl ?_
  refine g_iconst (v := 0) hC (dX5_readSum_6) kc_0 ?_
  refine g_istore_n (i := 3) (lv2 := [(3, .int 0), (2, .int r1), (0, .ref 21), (1, .int x1)]) hC (dX5_readSum_7) rfl (by decide) rfl ?_
  refine g_sub (lv' := [(0, .ref 21), (1, .int x1), (2, .int r1), (3, .int 0)]) [2, 3, 1, 0] rfl ?_
  refine wpO_bJ h (fun KL8 hKL8 h => ?_)
  refine lX5_readSum_8 (K1 := KL8) hC hrec0 hrec1 hrec2 hrec3 hrec4 (by omega) x1 (fun x2_77 M_77 h => ?_) _ _ _ _ h
  have h := hKL8 _ h
  have h := wpO_p h
  refine g_iload_n (i := 2) (x := x2_77) hC (dX5_readSum_77) rfl rfl ?_
  obtain ⟨q8, h⟩ := wpO_g h
  refine g_zreturn hC hr (dX5_readSum_78) q8 ?_
  exact wpO_s h
/-! LostByState$RuleReader.readProduct(I)Z -/
theorem dX5_readProduct_0 : decode cX5_readProduct 0 = .ok (.aload_n 0, 1) := by decide +kernel
theorem dX5_readProduct_1 : decode cX5_readProduct 1 = .ok (.iload_n 1, 1) := by decide +kernel
theorem dX5_readProduct_2 : decode cX5_readProduct 2 = .ok (.invokevirtual 64, 3) := by decide +kernel
theorem dX5_readProduct_5 : decode cX5_readProduct 5 = .ok (.istore_n 2, 1) := by decide +kernel
theorem dX5_readProduct_6 : decode cX5_readProduct 6 = .ok (.iconst 0, 1) := by decide +kernel
theorem dX5_readProduct_7 : decode cX5_readProduct 7 = .ok (.istore_n 3, 1) := by decide +kernel
theorem dX5_readProduct_8 : decode cX5_readProduct 8 = .ok (.iload_n 3, 1) := by decide +kernel
theorem dX5_readProduct_9 : decode cX5_readProduct 9 = .ok (.bipush 40, 2) := by decide +kernel
theorem dX5_readProduct_11 : decode cX5_readProduct 11 = .ok (.if_icmp .ge 66, 3) := by decide +kernel
theorem dX5_readProduct_14 : decode cX5_readProduct 14 = .ok (.iload_n 2, 1) := by decide +kernel
theorem dX5_readProduct_15 : decode cX5_readProduct 15 = .ok (.ifCond .eq 62, 3) := by decide +kernel
theorem dX5_readProduct_18 : decode cX5_readProduct 18 = .ok (.aload_n 0, 1) := by decide +kernel
theorem dX5_readProduct_19 : decode cX5_readProduct 19 = .ok (.invokevirtual 53, 3) := by decide +kernel
theorem dX5_readProduct_22 : decode cX5_readProduct 22 = .ok (.bipush 42, 2) := by decide +kernel
theorem dX5_readProduct_24 : decode cX5_readProduct 24 = .ok (.if_icmp .eq 12, 3) := by decide +kernel
theorem dX5_readProduct_27 : decode cX5_readProduct 27 = .ok (.aload_n 0, 1) := by decide +kernel
theorem dX5_readProduct_28 : decode cX5_readProduct 28 = .ok (.invokevirtual 53, 3) := by decide +kernel
theorem dX5_readProduct_31 : decode cX5_readProduct 31 = .ok (.bipush 47, 2) := by decide +kernel
theorem dX5_readProduct_33 : decode cX5_readProduct 33 = .ok (.if_icmp .ne 44, 3) := by decide +kernel
theorem dX5_readProduct_36 : decode cX5_readProduct 36 = .ok (.aload_n 0, 1) := by decide +kernel
theorem dX5_readProduct_37 : decode cX5_readProduct 37 = .ok (.invokevirtual 53, 3) := by decide +kernel
theorem dX5_readProduct_40 : decode cX5_readProduct 40 = .ok (.istore 4, 2) := by decide +kernel
theorem dX5_readProduct_42 : decode cX5_readProduct 42 = .ok (.aload_n 0, 1) := by decide +kernel
theorem dX5_readProduct_43 : decode cX5_readProduct 43 = .ok (.dup, 1) := by decide +kernel
theorem dX5_readProduct_44 : decode cX5_readProduct 44 = .ok (.getfield 15, 3) := by decide +kernel
theorem dX5_readProduct_47 : decode cX5_readProduct 47 = .ok (.iconst 1, 1) := by decide +kernel
theorem dX5_readProduct_48 : decode cX5_readProduct 48 = .ok (.iadd, 1) := by decide +kernel
theorem dX5_readProduct_49 : decode cX5_readProduct 49 = .ok (.putfield 15, 3) := by decide +kernel
theorem dX5_readProduct_52 : decode cX5_readProduct 52 = .ok (.aload_n 0, 1) := by decide +kernel
theorem dX5_readProduct_53 : decode cX5_readProduct 53 = .ok (.iload_n 1, 1) := by decide +kernel
theorem dX5_readProduct_54 : decode cX5_readProduct 54 = .ok (.invokevirtual 64, 3) := by decide +kernel
theorem dX5_readProduct_57 : decode cX5_readProduct 57 = .ok (.istore_n 2, 1) := by decide +kernel
theorem dX5_readProduct_58 : decode cX5_readProduct 58 = .ok (.aload_n 0, 1) := by decide +kernel
theorem dX5_readProduct_59 : decode cX5_readProduct 59 = .ok (.getfield 22, 3) := by decide +kernel
theorem dX5_readProduct_62 : decode cX5_readProduct 62 = .ok (.sipush 2000, 3) := by decide +kernel
theorem dX5_readProduct_65 : decode cX5_readProduct 65 = .ok (.iload 4, 2) := by decide +kernel
theorem dX5_readProduct_67 : decode cX5_readProduct 67 = .ok (.iadd, 1) := by decide +kernel
theorem dX5_readProduct_68 : decode cX5_readProduct 68 = .ok (.invokevirtual 57, 3) := by decide +kernel
theorem dX5_readProduct_71 : decode cX5_readProduct 71 = .ok (.iinc 3 1, 3) := by decide +kernel
theorem dX5_readProduct_74 : decode cX5_readProduct 74 = .ok (.goto (-66), 3) := by decide +kernel
theorem dX5_readProduct_77 : decode cX5_readProduct 77 = .ok (.iload_n 2, 1) := by decide +kernel
theorem dX5_readProduct_78 : decode cX5_readProduct 78 = .ok (.ireturn, 1) := by decide +kernel
def fX5_readProduct_L8 (rec : Nat → Int32 → zM → Option (Int32 × zM)) (x1 : Int32) : Nat → Int32 → Int32 → zM → Option (Int32 × zM)
  | 0, _, _, _ => none
  | n + 1, x2, x3, M => if 40 ≤ x3 then (
    some (x2, M))
    else (
    if x2 = 0 then (
    some (x2, M))
    else (
    (fX5_seen M).bind fun (r2 : Int32) =>
    zj (fun (_ : Unit) =>
    (fX5_seen M).bind fun (r5 : Int32) =>
    zlet (zSI M 21 3 ((M.1 21 3) + 1)) fun (M49 : zM) =>
    (rec 3 x1 M49).bind fun (q : Int32 × zM) => zp q fun r6 M54 =>
    (fX4_add 17 (2000 + r5) M54).bind fun (M68 : zM) =>
    fX5_readProduct_L8 rec x1 n r6 (x3 + 1) M68)
    fun J3 =>
    if r2 = 42 then (
    J3 ())
    else (
    (fX5_seen M).bind fun (r4 : Int32) =>
    if r4 = 47 then (
    J3 ())
    else (
    some (x2, M)))))
def fX5_readProduct (rec : Nat → Int32 → zM → Option (Int32 × zM)) (x1 : Int32) (M : zM) : Option (Int32 × zM) := (rec 3 x1 M).bind fun (q : Int32 × zM) => zp q fun r1 M2 =>
  (fX5_readProduct_L8 rec x1 4000 r1 0 M2).bind fun (q : Int32 × zM) => zp q fun x2_77 M_77 =>
  if x2_77 = 0 ∨ x2_77 = 1 then (
  some (x2_77, M_77)) else none
set_option maxHeartbeats 4000000 in
theorem lX5_readProduct_8 {E : zE} {Γ : zT} {d : Nat} {K1 : (Int32 × zM) → Prop} (hC : Cx E Γ RX5 cX5_readProduct 5 d) {rec : Nat → Int32 → zM → Option (Int32 × zM)} (hrec0 : ∀ (x1 : Int32) (M : zM) {K : (Int32 × zM) → Prop}, wpO (rec 0 x1 M) K → CMi E (d - 1) yX5_readComparison cX5_readComparison 3 (some .boolean) [.ref 21, .int x1] M (fun r N => K (r, N))) (hrec1 : ∀ (x1 : Int32) (M : zM) {K : (Int32 × zM) → Prop}, wpO (rec 1 x1 M) K → CMi E (d - 1) yX5_readSum cX5_readSum 5 (some .boolean) [.ref 21, .int x1] M (fun r N => K (r, N))) (hrec2 : ∀ (x1 : Int32) (M : zM) {K : (Int32 × zM) → Prop}, wpO (rec 2 x1 M) K → CMi E (d - 1) yX5_readProduct cX5_readProduct 5 (some .boolean) [.ref 21, .int x1] M (fun r N => K (r, N))) (hrec3 : ∀ (x1 : Int32) (M : zM) {K : (Int32 × zM) → Prop}, wpO (rec 3 x1 M) K → CMi E (d - 1) yX5_readSigned cX5_readSigned 4 (some .boolean) [.ref 21, .int x1] M (fun r N => K (r, N))) (hrec4 : ∀ (x1 : Int32) (M : zM) {K : (Int32 × zM) → Prop}, wpO (rec 4 x1 M) K → CMi E (d - 1) yX5_readInBrackets cX5_readInBrackets 2 (some .boolean) [.ref 21, .int x1] M (fun r N => K (r, N))) (hd : 2 ≤ d) (x1 : Int32) (hx : ∀ (x2_77 : Int32) (M_77 : zM), K1 (x2_77, M_77) → G E Γ 5 77 [(2, .int x2_77)] [] M_77) :
    ∀ (n : Nat) (x2 : Int32) (x3 : Int32) (M : zM), wpO (fX5_readProduct_L8 rec x1 n x2 x3 M) K1 → G E Γ 5 8 [(0, .ref 21), (1, .int x1), (2, .int x2), (3, .int x3)] [] M := by
  intro n
  induction n with
  | zero =>
    intro x2 x3 M h
    exact (wpO_0 h).elim
  | succ n ih =>
    intro x2 x3 M h
    rw [fX5_readProduct_L8.eq_2] at h
    refine g_iload_n (i := 3) (x := x3) hC (dX5_readProduct_8) rfl rfl ?_
    refine g_bipush (v := 40) hC (dX5_readProduct_9) kb_40 ?_
    refine g_icmp_ge (tgt := 77) hC (dX5_readProduct_11) (by decide) (fun c11 => ?_) (fun c11 => ?_)
    · have h := wpO_t c11 h
      refine g_sub (lv' := [(2, .int x2)]) [2] rfl ?_
      exact hx _ _ (wpO_s h)
    · have h := wpO_f c11 h
      refine g_iload_n (i := 2) (x := x2) hC (dX5_readProduct_14) rfl rfl ?_
      refine g_if_eq (tgt := 77) hC (dX5_readProduct_15) (by decide) (fun c15 => ?_) (fun c15 => ?_)
      · have h := wpO_t c15 h
        refine g_sub (lv' := [(2, .int x2)]) [2] rfl ?_
        exact hx _ _ (wpO_s h)
      · have h := wpO_f c15 h
        refine g_aload_n (i := 0) (x := 21) hC (dX5_readProduct_18) rfl rfl ?_
        have h := wpO_b h
        refine g_callVi ([]) hC wvX5_53 (dX5_readProduct_19) rfl rfl (by omega) (Nat.le_of_ble_eq_true rfl) (cX5_seen_ok (by omega) M h) (fun r2 N q => ?_)
        obtain ⟨rfl, h⟩ := q
        refine g_bipush (v := 42) hC (dX5_readProduct_22) kb_42 ?_
        refine wpO_j h (fun J3 hkJ3 h => ?_)
        have hJ3 : ∀ (_ : Unit), wpO (J3 ()) K1 → G E Γ 5 36 [(0, .ref 21), (1, .int x1), (3, .int x3)] [] M := by
          intro _ h
          have h := hkJ3 _ h
          refine g_aload_n (i := 0) (x := 21) hC (dX5_readProduct_36) rfl rfl ?_
          have h := wpO_b h
          refine g_callVi ([]) hC wvX5_53 (dX5_readProduct_37) rfl rfl (by omega) (Nat.le_of_ble_eq_true rfl) (cX5_seen_ok (by omega) M h) (fun r5 N q => ?_)
          obtain ⟨rfl, h⟩ := q
          refine g_istore (i := 4) (lv2 := [(4, .int r5), (0, .ref 21), (1, .int x1), (3, .int x3)]) hC (dX5_readProduct_40) (by decide) rfl ?_
          refine g_aload_n (i := 0) (x := 21) hC (dX5_readProduct_42) rfl rfl ?_
          refine g_dup hC (dX5_readProduct_43) rfl ?_
          refine g_getI hC flX5_15 (dX5_readProduct_44) rfl rfl ?_
          refine g_iconst (v := 1) hC (dX5_readProduct_47) kc_1 ?_
          refine g_iadd hC (dX5_readProduct_48) ?_
          refine g_putI hC fpX5_15 (dX5_readProduct_49) rfl rfl rfl rfl ?_
          refine g_nmM (fun M49 e_M49 => ?_)
          have h := wpO_n e_M49 h
          refine g_aload_n (i := 0) (x := 21) hC (dX5_readProduct_52) rfl rfl ?_
          refine g_iload_n (i := 1) (x := x1) hC (dX5_readProduct_53) rfl rfl ?_
          have h := wpO_b h
          refine g_callVi ([.int x1]) hC wvX5_64 (dX5_readProduct_54) rfl rfl (by omega) (Nat.le_of_ble_eq_true rfl) (hrec3 x1 M49 h) (fun r6 M54 h => ?_)
          have h := wpO_p h
          refine g_istore_n (i := 2) (lv2 := [(2, .int r6), (4, .int r5), (0, .ref 21), (1, .int x1), (3, .int x3)]) hC (dX5_readProduct_57) rfl (by decide) rfl ?_
          refine g_aload_n (i := 0) (x := 21) hC (dX5_readProduct_58) rfl rfl ?_
          refine g_getR (r := 17) hC flX5_22 (dX5_readProduct_59) rfl rfl rfl ?_
          refine g_sipush (v := 2000) hC (dX5_readProduct_62) ks_2000 ?_
          refine g_iload (i := 4) (x := r5) hC (dX5_readProduct_65) rfl ?_
          refine g_iadd hC (dX5_readProduct_67) ?_
          have h := wpO_b h
          refine g_callVv ([.int (2000 + r5)]) hC wvX5_57 (dX5_readProduct_68) rfl rfl (by omega) (Nat.le_of_ble_eq_true rfl) (cX4_add_ok (by omega) 17 (2000 + r5) M54 h) (fun M68 h => ?_)
          refine g_iinc (x := x3) (v := (x3 + 1)) (lv2 := [(3, .int (x3 + 1)), (2, .int r6), (4, .int r5), (0, .ref 21), (1, .int x1)]) hC (dX5_readProduct_71) rfl rfl (by decide) rfl ?_
          refine g_goto (tgt := 8) hC (dX5_readProduct_74) (by decide) ?_
          refine g_sub (lv' := [(0, .ref 21), (1, .int x1), (2, .int r6), (3, .int (x3 + 1))]) [3, 4, 1, 0] rfl ?_
          exact ih _ _ _ h
        refine g_icmp_eq (tgt := 36) hC (dX5_readProduct_24) (by decide) (fun c24 => ?_) (fun c24 => ?_)
        · have h := wpO_t c24 h
          refine g_sub (lv' := [(0, .ref 21), (1, .int x1), (3, .int x3)]) [0, 1, 3] rfl ?_
          exact hJ3 () h
        · have h := wpO_f c24 h
          refine g_aload_n (i := 0) (x := 21) hC (dX5_readProduct_27) rfl rfl ?_
          have h := wpO_b h
          refine g_callVi ([]) hC wvX5_53 (dX5_readProduct_28) rfl rfl (by omega) (Nat.le_of_ble_eq_true rfl) (cX5_seen_ok (by omega) M h) (fun r4 N q => ?_)
          obtain ⟨rfl, h⟩ := q
          refine g_bipush (v := 47) hC (dX5_readProduct_31) kb_47 ?_
          refine g_icmp_ne (tgt := 77) hC (dX5_readProduct_33) (by decide) (fun c33 => ?_) (fun c33 => ?_)
          · have h := wpO_f c33 h
            refine g_sub (lv' := [(2, .int x2)]) [2] rfl ?_
            exact hx _ _ (wpO_s h)
          · have h := wpO_t c33 h
            refine g_sub (lv' := [(0, .ref 21), (1, .int x1), (3, .int x3)]) [0, 1, 3] rfl ?_
            exact hJ3 () h
set_option maxHeartbeats 4000000 in
theorem cX5_readProduct_ok {E : zE} {d : Nat} (hd : 2 ≤ d) {rec : Nat → Int32 → zM → Option (Int32 × zM)} (hrec0 : ∀ (x1 : Int32) (M : zM) {K : (Int32 × zM) → Prop}, wpO (rec 0 x1 M) K → CMi E (d - 1) yX5_readComparison cX5_readComparison 3 (some .boolean) [.ref 21, .int x1] M (fun r N => K (r, N))) (hrec1 : ∀ (x1 : Int32) (M : zM) {K : (Int32 × zM) → Prop}, wpO (rec 1 x1 M) K → CMi E (d - 1) yX5_readSum cX5_readSum 5 (some .boolean) [.ref 21, .int x1] M (fun r N => K (r, N))) (hrec2 : ∀ (x1 : Int32) (M : zM) {K : (Int32 × zM) → Prop}, wpO (rec 2 x1 M) K → CMi E (d - 1) yX5_readProduct cX5_readProduct 5 (some .boolean) [.ref 21, .int x1] M (fun r N => K (r, N))) (hrec3 : ∀ (x1 : Int32) (M : zM) {K : (Int32 × zM) → Prop}, wpO (rec 3 x1 M) K → CMi E (d - 1) yX5_readSigned cX5_readSigned 4 (some .boolean) [.ref 21, .int x1] M (fun r N => K (r, N))) (hrec4 : ∀ (x1 : Int32) (M : zM) {K : (Int32 × zM) → Prop}, wpO (rec 4 x1 M) K → CMi E (d - 1) yX5_readInBrackets cX5_readInBrackets 2 (some .boolean) [.ref 21, .int x1] M (fun r N => K (r, N))) (x1 : Int32) (M : zM) {K : (Int32 × zM) → Prop} (h : wpO (fX5_readProduct rec x1 M) K) : CMi E d yX5_readProduct cX5_readProduct 5 (some .boolean) [.ref 21, .int x1] M (fun r N => K (r, N)) := by
  refine CMi.of (by decide) (Nat.le_of_ble_eq_true rfl) (fun Γ hC hr => ?_)
  have hC : Cx E Γ RX5 cX5_readProduct 5 d := hC
  show G E Γ 5 0 [(0, .ref 21), (1, .int x1)] [] M
  unfold fX5_readProduct at h
  refine g_aload_n (i := 0) (x := 21) hC (dX5_readProduct_0) rfl rfl ?_
  refine g_iload_n (i := 1) (x := x1) hC (dX5_readProduct_1) rfl rfl ?_
  have h := wpO_b h
  refine g_callVi ([.int x1]) hC wvX5_64 (dX5_readProduct_2) rfl rfl (by omega) (Nat.le_of_ble_eq_true rfl) (hrec3 x1 M h) (fun r1 M2 h => ?_)
  have h := wpO_p h
  refine g_istore_n (i := 2) (lv2 := [(2, .int r1), (0, .ref 21), (1, .int x1)]) hC (dX5_readProduct_5) rfl (by decide) rfl ?_
  refine g_iconst (v := 0) hC (dX5_readProduct_6) kc_0 ?_
  refine g_istore_n (i := 3) (lv2 := [(3, .int 0), (2, .int r1), (0, .ref 21), (1, .int x1)]) hC (dX5_readProduct_7) rfl (by decide) rfl ?_
  refine g_sub (lv' := [(0, .ref 21), (1, .int x1), (2, .int r1), (3, .int 0)]) [2, 3, 1, 0] rfl ?_
  refine wpO_bJ h (fun KL8 hKL8 h => ?_)
  refine lX5_readProduct_8 (K1 := KL8) hC hrec0 hrec1 hrec2 hrec3 hrec4 (by omega) x1 (fun x2_77 M_77 h => ?_) _ _ _ _ h
  have h := hKL8 _ h
  have h := wpO_p h
  refine g_iload_n (i := 2) (x := x2_77) hC (dX5_readProduct_77) rfl rfl ?_
  obtain ⟨q8, h⟩ := wpO_g h
  refine g_zreturn hC hr (dX5_readProduct_78) q8 ?_
  exact wpO_s h
/-! LostByState$RuleReader.readSigned(I)Z -/
theorem dX5_readSigned_0 : decode cX5_readSigned 0 = .ok (.iconst 0, 1) := by decide +kernel
theorem dX5_readSigned_1 : decode cX5_readSigned 1 = .ok (.istore_n 2, 1) := by decide +kernel
theorem dX5_readSigned_2 : decode cX5_readSigned 2 = .ok (.iconst 0, 1) := by decide +kernel
theorem dX5_readSigned_3 : decode cX5_readSigned 3 = .ok (.istore_n 3, 1) := by decide +kernel
theorem dX5_readSigned_4 : decode cX5_readSigned 4 = .ok (.iload_n 3, 1) := by decide +kernel
theorem dX5_readSigned_5 : decode cX5_readSigned 5 = .ok (.bipush 40, 2) := by decide +kernel
theorem dX5_readSigned_7 : decode cX5_readSigned 7 = .ok (.if_icmp .ge 38, 3) := by decide +kernel
theorem dX5_readSigned_10 : decode cX5_readSigned 10 = .ok (.aload_n 0, 1) := by decide +kernel
theorem dX5_readSigned_11 : decode cX5_readSigned 11 = .ok (.invokevirtual 53, 3) := by decide +kernel
theorem dX5_readSigned_14 : decode cX5_readSigned 14 = .ok (.bipush 45, 2) := by decide +kernel
theorem dX5_readSigned_16 : decode cX5_readSigned 16 = .ok (.if_icmp .ne 29, 3) := by decide +kernel
theorem dX5_readSigned_19 : decode cX5_readSigned 19 = .ok (.iload_n 2, 1) := by decide +kernel
theorem dX5_readSigned_20 : decode cX5_readSigned 20 = .ok (.ifCond .ne 7, 3) := by decide +kernel
theorem dX5_readSigned_23 : decode cX5_readSigned 23 = .ok (.iconst 1, 1) := by decide +kernel
theorem dX5_readSigned_24 : decode cX5_readSigned 24 = .ok (.goto 4, 3) := by decide +kernel
theorem dX5_readSigned_27 : decode cX5_readSigned 27 = .ok (.iconst 0, 1) := by decide +kernel
theorem dX5_readSigned_28 : decode cX5_readSigned 28 = .ok (.istore_n 2, 1) := by decide +kernel
theorem dX5_readSigned_29 : decode cX5_readSigned 29 = .ok (.aload_n 0, 1) := by decide +kernel
theorem dX5_readSigned_30 : decode cX5_readSigned 30 = .ok (.dup, 1) := by decide +kernel
theorem dX5_readSigned_31 : decode cX5_readSigned 31 = .ok (.getfield 15, 3) := by decide +kernel
theorem dX5_readSigned_34 : decode cX5_readSigned 34 = .ok (.iconst 1, 1) := by decide +kernel
theorem dX5_readSigned_35 : decode cX5_readSigned 35 = .ok (.iadd, 1) := by decide +kernel
theorem dX5_readSigned_36 : decode cX5_readSigned 36 = .ok (.putfield 15, 3) := by decide +kernel
theorem dX5_readSigned_39 : decode cX5_readSigned 39 = .ok (.iinc 3 1, 3) := by decide +kernel
theorem dX5_readSigned_42 : decode cX5_readSigned 42 = .ok (.goto (-38), 3) := by decide +kernel
theorem dX5_readSigned_45 : decode cX5_readSigned 45 = .ok (.aload_n 0, 1) := by decide +kernel
theorem dX5_readSigned_46 : decode cX5_readSigned 46 = .ok (.invokevirtual 53, 3) := by decide +kernel
theorem dX5_readSigned_49 : decode cX5_readSigned 49 = .ok (.bipush 40, 2) := by decide +kernel
theorem dX5_readSigned_51 : decode cX5_readSigned 51 = .ok (.if_icmp .ne 11, 3) := by decide +kernel
theorem dX5_readSigned_54 : decode cX5_readSigned 54 = .ok (.aload_n 0, 1) := by decide +kernel
theorem dX5_readSigned_55 : decode cX5_readSigned 55 = .ok (.iload_n 1, 1) := by decide +kernel
theorem dX5_readSigned_56 : decode cX5_readSigned 56 = .ok (.invokevirtual 67, 3) := by decide +kernel
theorem dX5_readSigned_59 : decode cX5_readSigned 59 = .ok (.goto 22, 3) := by decide +kernel
theorem dX5_readSigned_62 : decode cX5_readSigned 62 = .ok (.aload_n 0, 1) := by decide +kernel
theorem dX5_readSigned_63 : decode cX5_readSigned 63 = .ok (.invokevirtual 70, 3) := by decide +kernel
theorem dX5_readSigned_66 : decode cX5_readSigned 66 = .ok (.ifCond .ne 10, 3) := by decide +kernel
theorem dX5_readSigned_69 : decode cX5_readSigned 69 = .ok (.aload_n 0, 1) := by decide +kernel
theorem dX5_readSigned_70 : decode cX5_readSigned 70 = .ok (.invokevirtual 74, 3) := by decide +kernel
theorem dX5_readSigned_73 : decode cX5_readSigned 73 = .ok (.ifCond .eq 7, 3) := by decide +kernel
theorem dX5_readSigned_76 : decode cX5_readSigned 76 = .ok (.iconst 1, 1) := by decide +kernel
theorem dX5_readSigned_77 : decode cX5_readSigned 77 = .ok (.goto 4, 3) := by decide +kernel
theorem dX5_readSigned_80 : decode cX5_readSigned 80 = .ok (.iconst 0, 1) := by decide +kernel
theorem dX5_readSigned_81 : decode cX5_readSigned 81 = .ok (.istore_n 3, 1) := by decide +kernel
theorem dX5_readSigned_82 : decode cX5_readSigned 82 = .ok (.iload_n 3, 1) := by decide +kernel
theorem dX5_readSigned_83 : decode cX5_readSigned 83 = .ok (.ifCond .eq 17, 3) := by decide +kernel
theorem dX5_readSigned_86 : decode cX5_readSigned 86 = .ok (.iload_n 2, 1) := by decide +kernel
theorem dX5_readSigned_87 : decode cX5_readSigned 87 = .ok (.ifCond .eq 13, 3) := by decide +kernel
theorem dX5_readSigned_90 : decode cX5_readSigned 90 = .ok (.aload_n 0, 1) := by decide +kernel
theorem dX5_readSigned_91 : decode cX5_readSigned 91 = .ok (.getfield 22, 3) := by decide +kernel
theorem dX5_readSigned_94 : decode cX5_readSigned 94 = .ok (.sipush 3000, 3) := by decide +kernel
theorem dX5_readSigned_97 : decode cX5_readSigned 97 = .ok (.invokevirtual 57, 3) := by decide +kernel
theorem dX5_readSigned_100 : decode cX5_readSigned 100 = .ok (.iload_n 3, 1) := by decide +kernel
theorem dX5_readSigned_101 : decode cX5_readSigned 101 = .ok (.ireturn, 1) := by decide +kernel
def fX5_readSigned_L4 (rec : Nat → Int32 → zM → Option (Int32 × zM)) (x1 : Int32) : Nat → Int32 → Int32 → zM → Option (Int32 × zM)
  | 0, _, _, _ => none
  | n + 1, x2, x3, M => if 40 ≤ x3 then (
    some (x2, M))
    else (
    (fX5_seen M).bind fun (r1 : Int32) =>
    if r1 = 45 then (
    zlet (if x2 = 0 then (
    1)
    else (
    0)) fun (s0_28 : Int32) =>
    zlet (zSI M 21 3 ((M.1 21 3) + 1)) fun (M36 : zM) =>
    fX5_readSigned_L4 rec x1 n s0_28 (x3 + 1) M36)
    else (
    some (x2, M)))
def fX5_readSigned (rec : Nat → Int32 → zM → Option (Int32 × zM)) (x1 : Int32) (M : zM) : Option (Int32 × zM) := (fX5_readSigned_L4 rec x1 4000 0 0 M).bind fun (q : Int32 × zM) => zp q fun x2_45 M_45 =>
  (fX5_seen M_45).bind fun (r3 : Int32) =>
  (if r3 = 40 then (
  (rec 4 x1 M_45).bind fun (q : Int32 × zM) => zp q fun r8 M56 =>
  some (r8, M56))
  else (
  (fX5_readNumber M_45).bind fun (q : Int32 × zM) => zp q fun r5 M63 =>
  zj (fun (M_76 : zM) =>
  some (1, M_76))
  fun J6 =>
  if r5 = 0 then (
  (fX5_readName M63).bind fun (q : Int32 × zM) => zp q fun r7 M70 =>
  if r7 = 0 then (
  some (0, M70))
  else (
  J6 M70))
  else (
  J6 M63)) : Option (Int32 × zM)).bind fun (q : Int32 × zM) => zp q fun s0_81 M_81 =>
  (if s0_81 = 0 then (
  some M_81)
  else (
  if x2_45 = 0 then (
  some M_81)
  else (
  (fX4_add 17 3000 M_81).bind fun (M97 : zM) =>
  some M97)) : Option zM).bind fun (M_100 : zM) =>
  if s0_81 = 0 ∨ s0_81 = 1 then (
  some (s0_81, M_100)) else none
set_option maxHeartbeats 4000000 in
theorem lX5_readSigned_4 {E : zE} {Γ : zT} {d : Nat} {K1 : (Int32 × zM) → Prop} (hC : Cx E Γ RX5 cX5_readSigned 4 d) {rec : Nat → Int32 → zM → Option (Int32 × zM)} (hrec0 : ∀ (x1 : Int32) (M : zM) {K : (Int32 × zM) → Prop}, wpO (rec 0 x1 M) K → CMi E (d - 1) yX5_readComparison cX5_readComparison 3 (some .boolean) [.ref 21, .int x1] M (fun r N => K (r, N))) (hrec1 : ∀ (x1 : Int32) (M : zM) {K : (Int32 × zM) → Prop}, wpO (rec 1 x1 M) K → CMi E (d - 1) yX5_readSum cX5_readSum 5 (some .boolean) [.ref 21, .int x1] M (fun r N => K (r, N))) (hrec2 : ∀ (x1 : Int32) (M : zM) {K : (Int32 × zM) → Prop}, wpO (rec 2 x1 M) K → CMi E (d - 1) yX5_readProduct cX5_readProduct 5 (some .boolean) [.ref 21, .int x1] M (fun r N => K (r, N))) (hrec3 : ∀ (x1 : Int32) (M : zM) {K : (Int32 × zM) → Prop}, wpO (rec 3 x1 M) K → CMi E (d - 1) yX5_readSigned cX5_readSigned 4 (some .boolean) [.ref 21, .int x1] M (fun r N => K (r, N))) (hrec4 : ∀ (x1 : Int32) (M : zM) {K : (Int32 × zM) → Prop}, wpO (rec 4 x1 M) K → CMi E (d - 1) yX5_readInBrackets cX5_readInBrackets 2 (some .boolean) [.ref 21, .int x1] M (fun r N => K (r, N))) (hd : 5 ≤ d) (x1 : Int32) (hx : ∀ (x2_45 : Int32) (M_45 : zM), K1 (x2_45, M_45) → G E Γ 4 45 [(0, .ref 21), (1, .int x1), (2, .int x2_45)] [] M_45) :
    ∀ (n : Nat) (x2 : Int32) (x3 : Int32) (M : zM), wpO (fX5_readSigned_L4 rec x1 n x2 x3 M) K1 → G E Γ 4 4 [(0, .ref 21), (1, .int x1), (2, .int x2), (3, .int x3)] [] M := by
  intro n
  induction n with
  | zero =>
    intro x2 x3 M h
    exact (wpO_0 h).elim
  | succ n ih =>
    intro x2 x3 M h
    rw [fX5_readSigned_L4.eq_2] at h
    refine g_iload_n (i := 3) (x := x3) hC (dX5_readSigned_4) rfl rfl ?_
    refine g_bipush (v := 40) hC (dX5_readSigned_5) kb_40 ?_
    refine g_icmp_ge (tgt := 45) hC (dX5_readSigned_7) (by decide) (fun c7 => ?_) (fun c7 => ?_)
    · have h := wpO_t c7 h
      refine g_sub (lv' := [(0, .ref 21), (1, .int x1), (2, .int x2)]) [0, 1, 2] rfl ?_
      exact hx _ _ (wpO_s h)
    · have h := wpO_f c7 h
      refine g_aload_n (i := 0) (x := 21) hC (dX5_readSigned_10) rfl rfl ?_
      have h := wpO_b h
      refine g_callVi ([]) hC wvX5_53 (dX5_readSigned_11) rfl rfl (by omega) (Nat.le_of_ble_eq_true rfl) (cX5_seen_ok (by omega) M h) (fun r1 N q => ?_)
      obtain ⟨rfl, h⟩ := q
      refine g_bipush (v := 45) hC (dX5_readSigned_14) kb_45 ?_
      refine g_icmp_ne (tgt := 45) hC (dX5_readSigned_16) (by decide) (fun c16 => ?_) (fun c16 => ?_)
      · have h := wpO_f c16 h
        refine g_sub (lv' := [(0, .ref 21), (1, .int x1), (2, .int x2)]) [0, 1, 2] rfl ?_
        exact hx _ _ (wpO_s h)
      · have h := wpO_t c16 h
        refine g_iload_n (i := 2) (x := x2) hC (dX5_readSigned_19) rfl rfl ?_
        obtain ⟨s0_28, e_s0_28, h⟩ := wpO_l h
        have hJ2 : G E Γ 4 28 [(0, .ref 21), (1, .int x1), (3, .int x3)] [.int s0_28] M := by
          refine g_istore_n (i := 2) (lv2 := [(2, .int s0_28), (0, .ref 21), (1, .int x1), (3, .int x3)]) hC (dX5_readSigned_28) rfl (by decide) rfl ?_
          refine g_aload_n (i := 0) (x := 21) hC (dX5_readSigned_29) rfl rfl ?_
          refine g_dup hC (dX5_readSigned_30) rfl ?_
          refine g_getI hC flX5_15 (dX5_readSigned_31) rfl rfl ?_
          refine g_iconst (v := 1) hC (dX5_readSigned_34) kc_1 ?_
          refine g_iadd hC (dX5_readSigned_35) ?_
          refine g_putI hC fpX5_15 (dX5_readSigned_36) rfl rfl rfl rfl ?_
          refine g_nmM (fun M36 e_M36 => ?_)
          have h := wpO_n e_M36 h
          refine g_iinc (x := x3) (v := (x3 + 1)) (lv2 := [(3, .int (x3 + 1)), (2, .int s0_28), (0, .ref 21), (1, .int x1)]) hC (dX5_readSigned_39) rfl rfl (by decide) rfl ?_
          refine g_goto (tgt := 4) hC (dX5_readSigned_42) (by decide) ?_
          refine g_sub (lv' := [(0, .ref 21), (1, .int x1), (2, .int s0_28), (3, .int (x3 + 1))]) [2, 3, 1, 0] rfl ?_
          exact ih _ _ _ h
        refine g_if_ne (tgt := 27) hC (dX5_readSigned_20) (by decide) (fun c20 => ?_) (fun c20 => ?_)
        · rw [if_neg c20] at e_s0_28
          refine g_iconst (v := 0) hC (dX5_readSigned_27) kc_0 ?_
          refine g_sub (lv' := [(0, .ref 21), (1, .int x1), (3, .int x3)]) [0, 1, 3] rfl ?_
          subst e_s0_28
          exact hJ2
        · rw [if_pos c20] at e_s0_28
          refine g_iconst (v := 1) hC (dX5_readSigned_23) kc_1 ?_
          refine g_goto (tgt := 28) hC (dX5_readSigned_24) (by decide) ?_
          refine g_sub (lv' := [(0, .ref 21), (1, .int x1), (3, .int x3)]) [0, 1, 3] rfl ?_
          subst e_s0_28
          exact hJ2
set_option maxHeartbeats 4000000 in
theorem cX5_readSigned_ok {E : zE} {d : Nat} (hd : 5 ≤ d) {rec : Nat → Int32 → zM → Option (Int32 × zM)} (hrec0 : ∀ (x1 : Int32) (M : zM) {K : (Int32 × zM) → Prop}, wpO (rec 0 x1 M) K → CMi E (d - 1) yX5_readComparison cX5_readComparison 3 (some .boolean) [.ref 21, .int x1] M (fun r N => K (r, N))) (hrec1 : ∀ (x1 : Int32) (M : zM) {K : (Int32 × zM) → Prop}, wpO (rec 1 x1 M) K → CMi E (d - 1) yX5_readSum cX5_readSum 5 (some .boolean) [.ref 21, .int x1] M (fun r N => K (r, N))) (hrec2 : ∀ (x1 : Int32) (M : zM) {K : (Int32 × zM) → Prop}, wpO (rec 2 x1 M) K → CMi E (d - 1) yX5_readProduct cX5_readProduct 5 (some .boolean) [.ref 21, .int x1] M (fun r N => K (r, N))) (hrec3 : ∀ (x1 : Int32) (M : zM) {K : (Int32 × zM) → Prop}, wpO (rec 3 x1 M) K → CMi E (d - 1) yX5_readSigned cX5_readSigned 4 (some .boolean) [.ref 21, .int x1] M (fun r N => K (r, N))) (hrec4 : ∀ (x1 : Int32) (M : zM) {K : (Int32 × zM) → Prop}, wpO (rec 4 x1 M) K → CMi E (d - 1) yX5_readInBrackets cX5_readInBrackets 2 (some .boolean) [.ref 21, .int x1] M (fun r N => K (r, N))) (x1 : Int32) (M : zM) {K : (Int32 × zM) → Prop} (h : wpO (fX5_readSigned rec x1 M) K) : CMi E d yX5_readSigned cX5_readSigned 4 (some .boolean) [.ref 21, .int x1] M (fun r N => K (r, N)) := by
  refine CMi.of (by decide) (Nat.le_of_ble_eq_true rfl) (fun Γ hC hr => ?_)
  have hC : Cx E Γ RX5 cX5_readSigned 4 d := hC
  show G E Γ 4 0 [(0, .ref 21), (1, .int x1)] [] M
  unfold fX5_readSigned at h
  refine g_iconst (v := 0) hC (dX5_readSigned_0) kc_0 ?_
  refine g_istore_n (i := 2) (lv2 := [(2, .int 0), (0, .ref 21), (1, .int x1)]) hC (dX5_readSigned_1) rfl (by decide) rfl ?_
  refine g_iconst (v := 0) hC (dX5_readSigned_2) kc_0 ?_
  refine g_istore_n (i := 3) (lv2 := [(3, .int 0), (2, .int 0), (0, .ref 21), (1, .int x1)]) hC (dX5_readSigned_3) rfl (by decide) rfl ?_
  refine g_sub (lv' := [(0, .ref 21), (1, .int x1), (2, .int 0), (3, .int 0)]) [2, 3, 1, 0] rfl ?_
  refine wpO_bJ h (fun KL4 hKL4 h => ?_)
  refine lX5_readSigned_4 (K1 := KL4) hC hrec0 hrec1 hrec2 hrec3 hrec4 (by omega) x1 (fun x2_45 M_45 h => ?_) _ _ _ _ h
  have h := hKL4 _ h
  have h := wpO_p h
  refine g_aload_n (i := 0) (x := 21) hC (dX5_readSigned_45) rfl rfl ?_
  have h := wpO_b h
  refine g_callVi ([]) hC wvX5_53 (dX5_readSigned_46) rfl rfl (by omega) (Nat.le_of_ble_eq_true rfl) (cX5_seen_ok (by omega) M_45 h) (fun r3 N q => ?_)
  obtain ⟨rfl, h⟩ := q
  refine g_bipush (v := 40) hC (dX5_readSigned_49) kb_40 ?_
  refine wpO_bJ h (fun KJ4 hKJ4 h => ?_)
  have hJ4 : ∀ (s0_81 : Int32) (M_81 : zM), KJ4 (s0_81, M_81) → G E Γ 4 81 [(0, .ref 21), (2, .int x2_45)] [.int s0_81] M_81 := by
    intro s0_81 M_81 h
    have h := hKJ4 _ h
    have h := wpO_p h
    refine g_istore_n (i := 3) (lv2 := [(3, .int s0_81), (0, .ref 21), (2, .int x2_45)]) hC (dX5_readSigned_81) rfl (by decide) rfl ?_
    refine g_iload_n (i := 3) (x := s0_81) hC (dX5_readSigned_82) rfl rfl ?_
    refine wpO_bJ h (fun KJ9 hKJ9 h => ?_)
    have hJ9 : ∀ (M_100 : zM), KJ9 M_100 → G E Γ 4 100 [(3, .int s0_81)] [] M_100 := by
      intro M_100 h
      have h := hKJ9 _ h
      refine g_iload_n (i := 3) (x := s0_81) hC (dX5_readSigned_100) rfl rfl ?_
      obtain ⟨q11, h⟩ := wpO_g h
      refine g_zreturn hC hr (dX5_readSigned_101) q11 ?_
      exact wpO_s h
    refine g_if_eq (tgt := 100) hC (dX5_readSigned_83) (by decide) (fun c83 => ?_) (fun c83 => ?_)
    · have h := wpO_t c83 h
      refine g_sub (lv' := [(3, .int s0_81)]) [0] rfl ?_
      exact hJ9 _ (wpO_s h)
    · have h := wpO_f c83 h
      refine g_iload_n (i := 2) (x := x2_45) hC (dX5_readSigned_86) rfl rfl ?_
      refine g_if_eq (tgt := 100) hC (dX5_readSigned_87) (by decide) (fun c87 => ?_) (fun c87 => ?_)
      · have h := wpO_t c87 h
        refine g_sub (lv' := [(3, .int s0_81)]) [0] rfl ?_
        exact hJ9 _ (wpO_s h)
      · have h := wpO_f c87 h
        refine g_aload_n (i := 0) (x := 21) hC (dX5_readSigned_90) rfl rfl ?_
        refine g_getR (r := 17) hC flX5_22 (dX5_readSigned_91) rfl rfl rfl ?_
        refine g_sipush (v := 3000) hC (dX5_readSigned_94) ks_3000 ?_
        have h := wpO_b h
        refine g_callVv ([.int 3000]) hC wvX5_57 (dX5_readSigned_97) rfl rfl (by omega) (Nat.le_of_ble_eq_true rfl) (cX4_add_ok (by omega) 17 3000 M_81 h) (fun M97 h => ?_)
        refine g_sub (lv' := [(3, .int s0_81)]) [0] rfl ?_
        exact hJ9 _ (wpO_s h)
  refine g_icmp_ne (tgt := 62) hC (dX5_readSigned_51) (by decide) (fun c51 => ?_) (fun c51 => ?_)
  · have h := wpO_f c51 h
    refine g_aload_n (i := 0) (x := 21) hC (dX5_readSigned_62) rfl rfl ?_
    have h := wpO_b h
    refine g_callVi ([]) hC wvX5_70 (dX5_readSigned_63) rfl rfl (by omega) (Nat.le_of_ble_eq_true rfl) (cX5_readNumber_ok (by omega) M_45 h) (fun r5 M63 h => ?_)
    have h := wpO_p h
    refine wpO_j h (fun J6 hkJ6 h => ?_)
    have hJ6 : ∀ (M_76 : zM), wpO (J6 M_76) KJ4 → G E Γ 4 76 [(0, .ref 21), (2, .int x2_45)] [] M_76 := by
      intro M_76 h
      have h := hkJ6 _ h
      refine g_iconst (v := 1) hC (dX5_readSigned_76) kc_1 ?_
      refine g_goto (tgt := 81) hC (dX5_readSigned_77) (by decide) ?_
      exact hJ4 _ _ (wpO_s h)
    refine g_if_ne (tgt := 76) hC (dX5_readSigned_66) (by decide) (fun c66 => ?_) (fun c66 => ?_)
    · have h := wpO_f c66 h
      refine g_sub (lv' := [(0, .ref 21), (2, .int x2_45)]) [0, 2] rfl ?_
      exact hJ6 _ h
    · have h := wpO_t c66 h
      refine g_aload_n (i := 0) (x := 21) hC (dX5_readSigned_69) rfl rfl ?_
      have h := wpO_b h
      refine g_callVi ([]) hC wvX5_74 (dX5_readSigned_70) rfl rfl (by omega) (Nat.le_of_ble_eq_true rfl) (cX5_readName_ok (by omega) M63 h) (fun r7 M70 h => ?_)
      have h := wpO_p h
      refine g_if_eq (tgt := 80) hC (dX5_readSigned_73) (by decide) (fun c73 => ?_) (fun c73 => ?_)
      · have h := wpO_t c73 h
        refine g_iconst (v := 0) hC (dX5_readSigned_80) kc_0 ?_
        refine g_sub (lv' := [(0, .ref 21), (2, .int x2_45)]) [0, 2] rfl ?_
        exact hJ4 _ _ (wpO_s h)
      · have h := wpO_f c73 h
        refine g_sub (lv' := [(0, .ref 21), (2, .int x2_45)]) [0, 2] rfl ?_
        exact hJ6 _ h
  · have h := wpO_t c51 h
    refine g_aload_n (i := 0) (x := 21) hC (dX5_readSigned_54) rfl rfl ?_
    refine g_iload_n (i := 1) (x := x1) hC (dX5_readSigned_55) rfl rfl ?_
    have h := wpO_b h
    refine g_callVi ([.int x1]) hC wvX5_67 (dX5_readSigned_56) rfl rfl (by omega) (Nat.le_of_ble_eq_true rfl) (hrec4 x1 M_45 h) (fun r8 M56 h => ?_)
    have h := wpO_p h
    refine g_goto (tgt := 81) hC (dX5_readSigned_59) (by decide) ?_
    refine g_sub (lv' := [(0, .ref 21), (2, .int x2_45)]) [0, 2] rfl ?_
    exact hJ4 _ _ (wpO_s h)
/-! LostByState$RuleReader.readInBrackets(I)Z -/
theorem dX5_readInBrackets_0 : decode cX5_readInBrackets 0 = .ok (.iload_n 1, 1) := by decide +kernel
theorem dX5_readInBrackets_1 : decode cX5_readInBrackets 1 = .ok (.iconst 4, 1) := by decide +kernel
theorem dX5_readInBrackets_2 : decode cX5_readInBrackets 2 = .ok (.if_icmp .lt 5, 3) := by decide +kernel
theorem dX5_readInBrackets_5 : decode cX5_readInBrackets 5 = .ok (.iconst 0, 1) := by decide +kernel
theorem dX5_readInBrackets_6 : decode cX5_readInBrackets 6 = .ok (.ireturn, 1) := by decide +kernel
theorem dX5_readInBrackets_7 : decode cX5_readInBrackets 7 = .ok (.aload_n 0, 1) := by decide +kernel
theorem dX5_readInBrackets_8 : decode cX5_readInBrackets 8 = .ok (.dup, 1) := by decide +kernel
theorem dX5_readInBrackets_9 : decode cX5_readInBrackets 9 = .ok (.getfield 15, 3) := by decide +kernel
theorem dX5_readInBrackets_12 : decode cX5_readInBrackets 12 = .ok (.iconst 1, 1) := by decide +kernel
theorem dX5_readInBrackets_13 : decode cX5_readInBrackets 13 = .ok (.iadd, 1) := by decide +kernel
theorem dX5_readInBrackets_14 : decode cX5_readInBrackets 14 = .ok (.putfield 15, 3) := by decide +kernel
theorem dX5_readInBrackets_17 : decode cX5_readInBrackets 17 = .ok (.aload_n 0, 1) := by decide +kernel
theorem dX5_readInBrackets_18 : decode cX5_readInBrackets 18 = .ok (.iload_n 1, 1) := by decide +kernel
theorem dX5_readInBrackets_19 : decode cX5_readInBrackets 19 = .ok (.iconst 1, 1) := by decide +kernel
theorem dX5_readInBrackets_20 : decode cX5_readInBrackets 20 = .ok (.iadd, 1) := by decide +kernel
theorem dX5_readInBrackets_21 : decode cX5_readInBrackets 21 = .ok (.invokevirtual 42, 3) := by decide +kernel
theorem dX5_readInBrackets_24 : decode cX5_readInBrackets 24 = .ok (.ifCond .eq 12, 3) := by decide +kernel
theorem dX5_readInBrackets_27 : decode cX5_readInBrackets 27 = .ok (.aload_n 0, 1) := by decide +kernel
theorem dX5_readInBrackets_28 : decode cX5_readInBrackets 28 = .ok (.invokevirtual 53, 3) := by decide +kernel
theorem dX5_readInBrackets_31 : decode cX5_readInBrackets 31 = .ok (.bipush 41, 2) := by decide +kernel
theorem dX5_readInBrackets_33 : decode cX5_readInBrackets 33 = .ok (.if_icmp .eq 5, 3) := by decide +kernel
theorem dX5_readInBrackets_36 : decode cX5_readInBrackets 36 = .ok (.iconst 0, 1) := by decide +kernel
theorem dX5_readInBrackets_37 : decode cX5_readInBrackets 37 = .ok (.ireturn, 1) := by decide +kernel
theorem dX5_readInBrackets_38 : decode cX5_readInBrackets 38 = .ok (.aload_n 0, 1) := by decide +kernel
theorem dX5_readInBrackets_39 : decode cX5_readInBrackets 39 = .ok (.dup, 1) := by decide +kernel
theorem dX5_readInBrackets_40 : decode cX5_readInBrackets 40 = .ok (.getfield 15, 3) := by decide +kernel
theorem dX5_readInBrackets_43 : decode cX5_readInBrackets 43 = .ok (.iconst 1, 1) := by decide +kernel
theorem dX5_readInBrackets_44 : decode cX5_readInBrackets 44 = .ok (.iadd, 1) := by decide +kernel
theorem dX5_readInBrackets_45 : decode cX5_readInBrackets 45 = .ok (.putfield 15, 3) := by decide +kernel
theorem dX5_readInBrackets_48 : decode cX5_readInBrackets 48 = .ok (.iconst 1, 1) := by decide +kernel
theorem dX5_readInBrackets_49 : decode cX5_readInBrackets 49 = .ok (.ireturn, 1) := by decide +kernel
def fX5_readInBrackets (rec : Nat → Int32 → zM → Option (Int32 × zM)) (x1 : Int32) (M : zM) : Option (Int32 × zM) := if x1 < 4 then (
  zlet (zSI M 21 3 ((M.1 21 3) + 1)) fun (M14 : zM) =>
  (rec 0 (x1 + 1) M14).bind fun (q : Int32 × zM) => zp q fun r1 M21 =>
  if r1 = 0 then (
  some (0, M21))
  else (
  (fX5_seen M21).bind fun (r2 : Int32) =>
  if r2 = 41 then (
  zlet (zSI M21 21 3 ((M21.1 21 3) + 1)) fun (M45 : zM) =>
  some (1, M45))
  else (
  some (0, M21))))
  else (
  some (0, M))
set_option maxHeartbeats 4000000 in
theorem cX5_readInBrackets_ok {E : zE} {d : Nat} (hd : 2 ≤ d) {rec : Nat → Int32 → zM → Option (Int32 × zM)} (hrec0 : ∀ (x1 : Int32) (M : zM) {K : (Int32 × zM) → Prop}, wpO (rec 0 x1 M) K → CMi E (d - 1) yX5_readComparison cX5_readComparison 3 (some .boolean) [.ref 21, .int x1] M (fun r N => K (r, N))) (hrec1 : ∀ (x1 : Int32) (M : zM) {K : (Int32 × zM) → Prop}, wpO (rec 1 x1 M) K → CMi E (d - 1) yX5_readSum cX5_readSum 5 (some .boolean) [.ref 21, .int x1] M (fun r N => K (r, N))) (hrec2 : ∀ (x1 : Int32) (M : zM) {K : (Int32 × zM) → Prop}, wpO (rec 2 x1 M) K → CMi E (d - 1) yX5_readProduct cX5_readProduct 5 (some .boolean) [.ref 21, .int x1] M (fun r N => K (r, N))) (hrec3 : ∀ (x1 : Int32) (M : zM) {K : (Int32 × zM) → Prop}, wpO (rec 3 x1 M) K → CMi E (d - 1) yX5_readSigned cX5_readSigned 4 (some .boolean) [.ref 21, .int x1] M (fun r N => K (r, N))) (hrec4 : ∀ (x1 : Int32) (M : zM) {K : (Int32 × zM) → Prop}, wpO (rec 4 x1 M) K → CMi E (d - 1) yX5_readInBrackets cX5_readInBrackets 2 (some .boolean) [.ref 21, .int x1] M (fun r N => K (r, N))) (x1 : Int32) (M : zM) {K : (Int32 × zM) → Prop} (h : wpO (fX5_readInBrackets rec x1 M) K) : CMi E d yX5_readInBrackets cX5_readInBrackets 2 (some .boolean) [.ref 21, .int x1] M (fun r N => K (r, N)) := by
  refine CMi.of (by decide) (Nat.le_of_ble_eq_true rfl) (fun Γ hC hr => ?_)
  have hC : Cx E Γ RX5 cX5_readInBrackets 2 d := hC
  show G E Γ 2 0 [(0, .ref 21), (1, .int x1)] [] M
  unfold fX5_readInBrackets at h
  refine g_iload_n (i := 1) (x := x1) hC (dX5_readInBrackets_0) rfl rfl ?_
  refine g_iconst (v := 4) hC (dX5_readInBrackets_1) kc_4 ?_
  refine g_icmp_lt (tgt := 7) hC (dX5_readInBrackets_2) (by decide) (fun c2 => ?_) (fun c2 => ?_)
  · have h := wpO_t c2 h
    refine g_aload_n (i := 0) (x := 21) hC (dX5_readInBrackets_7) rfl rfl ?_
    refine g_dup hC (dX5_readInBrackets_8) rfl ?_
    refine g_getI hC flX5_15 (dX5_readInBrackets_9) rfl rfl ?_
    refine g_iconst (v := 1) hC (dX5_readInBrackets_12) kc_1 ?_
    refine g_iadd hC (dX5_readInBrackets_13) ?_
    refine g_putI hC fpX5_15 (dX5_readInBrackets_14) rfl rfl rfl rfl ?_
    refine g_nmM (fun M14 e_M14 => ?_)
    have h := wpO_n e_M14 h
    refine g_aload_n (i := 0) (x := 21) hC (dX5_readInBrackets_17) rfl rfl ?_
    refine g_iload_n (i := 1) (x := x1) hC (dX5_readInBrackets_18) rfl rfl ?_
    refine g_iconst (v := 1) hC (dX5_readInBrackets_19) kc_1 ?_
    refine g_iadd hC (dX5_readInBrackets_20) ?_
    have h := wpO_b h
    refine g_callVi ([.int (x1 + 1)]) hC wvX5_42 (dX5_readInBrackets_21) rfl rfl (by omega) (Nat.le_of_ble_eq_true rfl) (hrec0 (x1 + 1) M14 h) (fun r1 M21 h => ?_)
    have h := wpO_p h
    refine g_if_eq (tgt := 36) hC (dX5_readInBrackets_24) (by decide) (fun c24 => ?_) (fun c24 => ?_)
    · have h := wpO_t c24 h
      refine g_iconst (v := 0) hC (dX5_readInBrackets_36) kc_0 ?_
      refine g_zreturn hC hr (dX5_readInBrackets_37) (Or.inl rfl) ?_
      exact wpO_s h
    · have h := wpO_f c24 h
      refine g_aload_n (i := 0) (x := 21) hC (dX5_readInBrackets_27) rfl rfl ?_
      have h := wpO_b h
      refine g_callVi ([]) hC wvX5_53 (dX5_readInBrackets_28) rfl rfl (by omega) (Nat.le_of_ble_eq_true rfl) (cX5_seen_ok (by omega) M21 h) (fun r2 N q => ?_)
      obtain ⟨rfl, h⟩ := q
      refine g_bipush (v := 41) hC (dX5_readInBrackets_31) kb_41 ?_
      refine g_icmp_eq (tgt := 38) hC (dX5_readInBrackets_33) (by decide) (fun c33 => ?_) (fun c33 => ?_)
      · have h := wpO_t c33 h
        refine g_aload_n (i := 0) (x := 21) hC (dX5_readInBrackets_38) rfl rfl ?_
        refine g_dup hC (dX5_readInBrackets_39) rfl ?_
        refine g_getI hC flX5_15 (dX5_readInBrackets_40) rfl rfl ?_
        refine g_iconst (v := 1) hC (dX5_readInBrackets_43) kc_1 ?_
        refine g_iadd hC (dX5_readInBrackets_44) ?_
        refine g_putI hC fpX5_15 (dX5_readInBrackets_45) rfl rfl rfl rfl ?_
        refine g_nmM (fun M45 e_M45 => ?_)
        have h := wpO_n e_M45 h
        refine g_iconst (v := 1) hC (dX5_readInBrackets_48) kc_1 ?_
        refine g_zreturn hC hr (dX5_readInBrackets_49) (Or.inr rfl) ?_
        exact wpO_s h
      · have h := wpO_f c33 h
        refine g_iconst (v := 0) hC (dX5_readInBrackets_36) kc_0 ?_
        refine g_zreturn hC hr (dX5_readInBrackets_37) (Or.inl rfl) ?_
        exact wpO_s h
  · have h := wpO_f c2 h
    refine g_iconst (v := 0) hC (dX5_readInBrackets_5) kc_0 ?_
    refine g_zreturn hC hr (dX5_readInBrackets_6) (Or.inl rfl) ?_
    exact wpO_s h
def fX5_grp : Nat → Nat → Int32 → zM → Option (Int32 × zM)
  | 0, _, _, _ => none
  | n + 1, s, x1, M => if s = 0 then fX5_readComparison (fX5_grp n) x1 M else if s = 1 then fX5_readSum (fX5_grp n) x1 M else if s = 2 then fX5_readProduct (fX5_grp n) x1 M else if s = 3 then fX5_readSigned (fX5_grp n) x1 M else if s = 4 then fX5_readInBrackets (fX5_grp n) x1 M else none
theorem cX5_grp {E : zE} : ∀ (n : Nat) {d : Nat}, 5 + n ≤ d → (∀ (x1 : Int32) (M : zM) {K : (Int32 × zM) → Prop}, wpO (fX5_grp n 0 x1 M) K → CMi E (d) yX5_readComparison cX5_readComparison 3 (some .boolean) [.ref 21, .int x1] M (fun r N => K (r, N))) ∧ (∀ (x1 : Int32) (M : zM) {K : (Int32 × zM) → Prop}, wpO (fX5_grp n 1 x1 M) K → CMi E (d) yX5_readSum cX5_readSum 5 (some .boolean) [.ref 21, .int x1] M (fun r N => K (r, N))) ∧ (∀ (x1 : Int32) (M : zM) {K : (Int32 × zM) → Prop}, wpO (fX5_grp n 2 x1 M) K → CMi E (d) yX5_readProduct cX5_readProduct 5 (some .boolean) [.ref 21, .int x1] M (fun r N => K (r, N))) ∧ (∀ (x1 : Int32) (M : zM) {K : (Int32 × zM) → Prop}, wpO (fX5_grp n 3 x1 M) K → CMi E (d) yX5_readSigned cX5_readSigned 4 (some .boolean) [.ref 21, .int x1] M (fun r N => K (r, N))) ∧ (∀ (x1 : Int32) (M : zM) {K : (Int32 × zM) → Prop}, wpO (fX5_grp n 4 x1 M) K → CMi E (d) yX5_readInBrackets cX5_readInBrackets 2 (some .boolean) [.ref 21, .int x1] M (fun r N => K (r, N))) := by
  intro n
  induction n with
  | zero => intro d hd; exact ⟨fun x1 M K h => (wpO_0 h).elim, fun x1 M K h => (wpO_0 h).elim, fun x1 M K h => (wpO_0 h).elim, fun x1 M K h => (wpO_0 h).elim, fun x1 M K h => (wpO_0 h).elim⟩
  | succ n ih =>
    intro d hd
    obtain ⟨i0, i1, i2, i3, i4⟩ := ih (d := d - 1) (by omega)
    refine ⟨fun x1 M K h => ?_, fun x1 M K h => ?_, fun x1 M K h => ?_, fun x1 M K h => ?_, fun x1 M K h => ?_⟩
    · rw [fX5_grp.eq_2] at h
      have h := wpO_t rfl h
      exact cX5_readComparison_ok (by omega) i0 i1 i2 i3 i4 x1 M h
    · rw [fX5_grp.eq_2] at h
      have h := wpO_f (by decide) h
      have h := wpO_t rfl h
      exact cX5_readSum_ok (by omega) i0 i1 i2 i3 i4 x1 M h
    · rw [fX5_grp.eq_2] at h
      have h := wpO_f (by decide) h
      have h := wpO_f (by decide) h
      have h := wpO_t rfl h
      exact cX5_readProduct_ok (by omega) i0 i1 i2 i3 i4 x1 M h
    · rw [fX5_grp.eq_2] at h
      have h := wpO_f (by decide) h
      have h := wpO_f (by decide) h
      have h := wpO_f (by decide) h
      have h := wpO_t rfl h
      exact cX5_readSigned_ok (by omega) i0 i1 i2 i3 i4 x1 M h
    · rw [fX5_grp.eq_2] at h
      have h := wpO_f (by decide) h
      have h := wpO_f (by decide) h
      have h := wpO_f (by decide) h
      have h := wpO_f (by decide) h
      have h := wpO_t rfl h
      exact cX5_readInBrackets_ok (by omega) i0 i1 i2 i3 i4 x1 M h
theorem cX5_grp0 {E : zE} {d : Nat} (hd : 105 ≤ d) : ∀ (x1 : Int32) (M : zM) {K : (Int32 × zM) → Prop}, wpO (fX5_grp 100 0 x1 M) K → CMi E (d) yX5_readComparison cX5_readComparison 3 (some .boolean) [.ref 21, .int x1] M (fun r N => K (r, N)) := (cX5_grp 100 hd).1
theorem cX5_grp1 {E : zE} {d : Nat} (hd : 105 ≤ d) : ∀ (x1 : Int32) (M : zM) {K : (Int32 × zM) → Prop}, wpO (fX5_grp 100 1 x1 M) K → CMi E (d) yX5_readSum cX5_readSum 5 (some .boolean) [.ref 21, .int x1] M (fun r N => K (r, N)) := (cX5_grp 100 hd).2.1
theorem cX5_grp2 {E : zE} {d : Nat} (hd : 105 ≤ d) : ∀ (x1 : Int32) (M : zM) {K : (Int32 × zM) → Prop}, wpO (fX5_grp 100 2 x1 M) K → CMi E (d) yX5_readProduct cX5_readProduct 5 (some .boolean) [.ref 21, .int x1] M (fun r N => K (r, N)) := (cX5_grp 100 hd).2.2.1
theorem cX5_grp3 {E : zE} {d : Nat} (hd : 105 ≤ d) : ∀ (x1 : Int32) (M : zM) {K : (Int32 × zM) → Prop}, wpO (fX5_grp 100 3 x1 M) K → CMi E (d) yX5_readSigned cX5_readSigned 4 (some .boolean) [.ref 21, .int x1] M (fun r N => K (r, N)) := (cX5_grp 100 hd).2.2.2.1
theorem cX5_grp4 {E : zE} {d : Nat} (hd : 105 ≤ d) : ∀ (x1 : Int32) (M : zM) {K : (Int32 × zM) → Prop}, wpO (fX5_grp 100 4 x1 M) K → CMi E (d) yX5_readInBrackets cX5_readInBrackets 2 (some .boolean) [.ref 21, .int x1] M (fun r N => K (r, N)) := (cX5_grp 100 hd).2.2.2.2
/-! LostByState$RuleReader.readAll()I -/
theorem dX5_readAll_0 : decode cX5_readAll 0 = .ok (.aload_n 0, 1) := by decide +kernel
theorem dX5_readAll_1 : decode cX5_readAll 1 = .ok (.getfield 22, 3) := by decide +kernel
theorem dX5_readAll_4 : decode cX5_readAll 4 = .ok (.iconst 0, 1) := by decide +kernel
theorem dX5_readAll_5 : decode cX5_readAll 5 = .ok (.putfield 26, 3) := by decide +kernel
theorem dX5_readAll_8 : decode cX5_readAll 8 = .ok (.aload_n 0, 1) := by decide +kernel
theorem dX5_readAll_9 : decode cX5_readAll 9 = .ok (.aload_n 0, 1) := by decide +kernel
theorem dX5_readAll_10 : decode cX5_readAll 10 = .ok (.getfield 18, 3) := by decide +kernel
theorem dX5_readAll_13 : decode cX5_readAll 13 = .ok (.getfield 31, 3) := by decide +kernel
theorem dX5_readAll_16 : decode cX5_readAll 16 = .ok (.bipush 40, 2) := by decide +kernel
theorem dX5_readAll_18 : decode cX5_readAll 18 = .ok (.invokestatic 36, 3) := by decide +kernel
theorem dX5_readAll_21 : decode cX5_readAll 21 = .ok (.putfield 9, 3) := by decide +kernel
theorem dX5_readAll_24 : decode cX5_readAll 24 = .ok (.aload_n 0, 1) := by decide +kernel
theorem dX5_readAll_25 : decode cX5_readAll 25 = .ok (.iconst 0, 1) := by decide +kernel
theorem dX5_readAll_26 : decode cX5_readAll 26 = .ok (.putfield 15, 3) := by decide +kernel
theorem dX5_readAll_29 : decode cX5_readAll 29 = .ok (.aload_n 0, 1) := by decide +kernel
theorem dX5_readAll_30 : decode cX5_readAll 30 = .ok (.iconst 0, 1) := by decide +kernel
theorem dX5_readAll_31 : decode cX5_readAll 31 = .ok (.invokevirtual 42, 3) := by decide +kernel
theorem dX5_readAll_34 : decode cX5_readAll 34 = .ok (.ifCond .eq 21, 3) := by decide +kernel
theorem dX5_readAll_37 : decode cX5_readAll 37 = .ok (.aload_n 0, 1) := by decide +kernel
theorem dX5_readAll_38 : decode cX5_readAll 38 = .ok (.getfield 15, 3) := by decide +kernel
theorem dX5_readAll_41 : decode cX5_readAll 41 = .ok (.aload_n 0, 1) := by decide +kernel
theorem dX5_readAll_42 : decode cX5_readAll 42 = .ok (.getfield 18, 3) := by decide +kernel
theorem dX5_readAll_45 : decode cX5_readAll 45 = .ok (.getfield 31, 3) := by decide +kernel
theorem dX5_readAll_48 : decode cX5_readAll 48 = .ok (.if_icmp .ne 7, 3) := by decide +kernel
theorem dX5_readAll_51 : decode cX5_readAll 51 = .ok (.iconst (-1), 1) := by decide +kernel
theorem dX5_readAll_52 : decode cX5_readAll 52 = .ok (.goto 7, 3) := by decide +kernel
theorem dX5_readAll_55 : decode cX5_readAll 55 = .ok (.aload_n 0, 1) := by decide +kernel
theorem dX5_readAll_56 : decode cX5_readAll 56 = .ok (.getfield 15, 3) := by decide +kernel
theorem dX5_readAll_59 : decode cX5_readAll 59 = .ok (.ireturn, 1) := by decide +kernel
def fX5_readAll  (M : zM) : Option (Int32 × zM) := zlet (zSI M 17 3 0) fun (M5 : zM) =>
  zlet (zSI M5 21 2 (zmin (M5.1 1 1) 40)) fun (M21 : zM) =>
  zlet (zSI M21 21 3 0) fun (M26 : zM) =>
  (fX5_grp 100 0 0 M26).bind fun (q : Int32 × zM) => zp q fun r1 M31 =>
  zj (fun (_ : Unit) =>
  some (M31.1 21 3, M31))
  fun J2 =>
  if r1 = 0 then (
  J2 ())
  else (
  if (M31.1 21 3) = (M31.1 1 1) then (
  some ((-1), M31))
  else (
  J2 ()))
set_option maxHeartbeats 4000000 in
theorem cX5_readAll_ok {E : zE} {d : Nat} (hd : 106 ≤ d)  (M : zM) {K : (Int32 × zM) → Prop} (h : wpO (fX5_readAll  M) K) : CMi E d yX5_readAll cX5_readAll 1 (some .int) [.ref 21] M (fun r N => K (r, N)) := by
  refine CMi.of (by decide) (Nat.le_of_ble_eq_true rfl) (fun Γ hC hr => ?_)
  have hC : Cx E Γ RX5 cX5_readAll 1 d := hC
  show G E Γ 1 0 [(0, .ref 21)] [] M
  unfold fX5_readAll at h
  refine g_aload_n (i := 0) (x := 21) hC (dX5_readAll_0) rfl rfl ?_
  refine g_getR (r := 17) hC flX5_22 (dX5_readAll_1) rfl rfl rfl ?_
  refine g_iconst (v := 0) hC (dX5_readAll_4) kc_0 ?_
  refine g_putI hC fpX5_26 (dX5_readAll_5) rfl rfl rfl rfl ?_
  refine g_nmM (fun M5 e_M5 => ?_)
  have h := wpO_n e_M5 h
  refine g_aload_n (i := 0) (x := 21) hC (dX5_readAll_8) rfl rfl ?_
  refine g_aload_n (i := 0) (x := 21) hC (dX5_readAll_9) rfl rfl ?_
  refine g_getR (r := 1) hC flX5_18 (dX5_readAll_10) rfl rfl rfl ?_
  refine g_getI hC flX5_31 (dX5_readAll_13) rfl rfl ?_
  refine g_bipush (v := 40) hC (dX5_readAll_16) kb_40 ?_
  refine g_min hC wmX5_36 (dX5_readAll_18) (by omega) (Nat.le_of_ble_eq_true rfl) ?_
  refine g_putI hC fpX5_9 (dX5_readAll_21) rfl rfl rfl rfl ?_
  refine g_nmM (fun M21 e_M21 => ?_)
  have h := wpO_n e_M21 h
  refine g_aload_n (i := 0) (x := 21) hC (dX5_readAll_24) rfl rfl ?_
  refine g_iconst (v := 0) hC (dX5_readAll_25) kc_0 ?_
  refine g_putI hC fpX5_15 (dX5_readAll_26) rfl rfl rfl rfl ?_
  refine g_nmM (fun M26 e_M26 => ?_)
  have h := wpO_n e_M26 h
  refine g_aload_n (i := 0) (x := 21) hC (dX5_readAll_29) rfl rfl ?_
  refine g_iconst (v := 0) hC (dX5_readAll_30) kc_0 ?_
  have h := wpO_b h
  refine g_callVi ([.int 0]) hC wvX5_42 (dX5_readAll_31) rfl rfl (by omega) (Nat.le_of_ble_eq_true rfl) (cX5_grp0 (by omega) 0 M26 h) (fun r1 M31 h => ?_)
  have h := wpO_p h
  refine wpO_j h (fun J2 hkJ2 h => ?_)
  have hJ2 : ∀ (_ : Unit), wpO (J2 ()) K → G E Γ 1 55 [(0, .ref 21)] [] M31 := by
    intro _ h
    have h := hkJ2 _ h
    refine g_aload_n (i := 0) (x := 21) hC (dX5_readAll_55) rfl rfl ?_
    refine g_getI hC flX5_15 (dX5_readAll_56) rfl rfl ?_
    refine g_ireturn hC hr (dX5_readAll_59) ?_
    exact wpO_s h
  refine g_if_eq (tgt := 55) hC (dX5_readAll_34) (by decide) (fun c34 => ?_) (fun c34 => ?_)
  · have h := wpO_t c34 h
    exact hJ2 () h
  · have h := wpO_f c34 h
    refine g_aload_n (i := 0) (x := 21) hC (dX5_readAll_37) rfl rfl ?_
    refine g_getI hC flX5_15 (dX5_readAll_38) rfl rfl ?_
    refine g_aload_n (i := 0) (x := 21) hC (dX5_readAll_41) rfl rfl ?_
    refine g_getR (r := 1) hC flX5_18 (dX5_readAll_42) rfl rfl rfl ?_
    refine g_getI hC flX5_31 (dX5_readAll_45) rfl rfl ?_
    refine g_icmp_ne (tgt := 55) hC (dX5_readAll_48) (by decide) (fun c48 => ?_) (fun c48 => ?_)
    · have h := wpO_f c48 h
      exact hJ2 () h
    · have h := wpO_t c48 h
      refine g_iconst (v := (-1)) hC (dX5_readAll_51) kc_m1 ?_
      refine g_goto (tgt := 59) hC (dX5_readAll_52) (by decide) ?_
      refine g_ireturn hC hr (dX5_readAll_59) ?_
      exact wpO_s h
/-! LostByState.isOf(II)Z -/
theorem dX11_isOf_0 : decode cX11_isOf 0 = .ok (.iload_n 0, 1) := by decide +kernel
theorem dX11_isOf_1 : decode cX11_isOf 1 = .ok (.iload_n 1, 1) := by decide +kernel
theorem dX11_isOf_2 : decode cX11_isOf 2 = .ok (.ishr, 1) := by decide +kernel
theorem dX11_isOf_3 : decode cX11_isOf 3 = .ok (.iconst 1, 1) := by decide +kernel
theorem dX11_isOf_4 : decode cX11_isOf 4 = .ok (.iand, 1) := by decide +kernel
theorem dX11_isOf_5 : decode cX11_isOf 5 = .ok (.iconst 1, 1) := by decide +kernel
theorem dX11_isOf_6 : decode cX11_isOf 6 = .ok (.if_icmp .ne 7, 3) := by decide +kernel
theorem dX11_isOf_9 : decode cX11_isOf 9 = .ok (.iconst 1, 1) := by decide +kernel
theorem dX11_isOf_10 : decode cX11_isOf 10 = .ok (.goto 4, 3) := by decide +kernel
theorem dX11_isOf_13 : decode cX11_isOf 13 = .ok (.iconst 0, 1) := by decide +kernel
theorem dX11_isOf_14 : decode cX11_isOf 14 = .ok (.ireturn, 1) := by decide +kernel
def fX11_isOf (x0 : Int32) (x1 : Int32) : Int32 := if ((zshr x0 x1) &&& 1) = 1 then (
  1)
  else (
  0)
theorem bX11_isOf (x0 : Int32) (x1 : Int32) : fX11_isOf x0 x1 = 0 ∨ fX11_isOf x0 x1 = 1 := by
  unfold fX11_isOf
  try simp only [zlet, zp, zj]
  repeat' split
  all_goals first | exact Or.inl rfl | exact Or.inr rfl | (simp; done)
set_option maxHeartbeats 4000000 in
theorem cX11_isOf_ok {E : zE} {d : Nat} (hd : 0 ≤ d) (x0 : Int32) (x1 : Int32) (M : zM) {K : Int32 → Prop} (h : wpI (fX11_isOf x0 x1) K) : CMi E d yX11_isOf cX11_isOf 2 (some .boolean) [.int x0, .int x1] M (fun r N => M = N ∧ K r) := by
  refine CMi.of (by decide) (Nat.le_of_ble_eq_true rfl) (fun Γ hC hr => ?_)
  have hC : Cx E Γ RX11 cX11_isOf 2 d := hC
  show G E Γ 2 0 [(0, .int x0), (1, .int x1)] [] M
  unfold fX11_isOf at h
  refine g_iload_n (i := 0) (x := x0) hC (dX11_isOf_0) rfl rfl ?_
  refine g_iload_n (i := 1) (x := x1) hC (dX11_isOf_1) rfl rfl ?_
  refine g_ishr hC (dX11_isOf_2) ?_
  refine g_iconst (v := 1) hC (dX11_isOf_3) kc_1 ?_
  refine g_iand hC (dX11_isOf_4) ?_
  refine g_iconst (v := 1) hC (dX11_isOf_5) kc_1 ?_
  refine g_icmp_ne (tgt := 13) hC (dX11_isOf_6) (by decide) (fun c6 => ?_) (fun c6 => ?_)
  · have h := wpI_f c6 h
    refine g_iconst (v := 0) hC (dX11_isOf_13) kc_0 ?_
    refine g_zreturn hC hr (dX11_isOf_14) (Or.inl rfl) ?_
    exact ⟨rfl, wpI_s h⟩
  · have h := wpI_t c6 h
    refine g_iconst (v := 1) hC (dX11_isOf_9) kc_1 ?_
    refine g_goto (tgt := 14) hC (dX11_isOf_10) (by decide) ?_
    refine g_zreturn hC hr (dX11_isOf_14) (Or.inr rfl) ?_
    exact ⟨rfl, wpI_s h⟩
/-! LostByState$Sharing.withThing(III)I -/
theorem dX6_withThing_0 : decode cX6_withThing 0 = .ok (.aload_n 0, 1) := by decide +kernel
theorem dX6_withThing_1 : decode cX6_withThing 1 = .ok (.getfield 15, 3) := by decide +kernel
theorem dX6_withThing_4 : decode cX6_withThing 4 = .ok (.iload_n 1, 1) := by decide +kernel
theorem dX6_withThing_5 : decode cX6_withThing 5 = .ok (.bipush 8, 2) := by decide +kernel
theorem dX6_withThing_7 : decode cX6_withThing 7 = .ok (.imul, 1) := by decide +kernel
theorem dX6_withThing_8 : decode cX6_withThing 8 = .ok (.iload_n 3, 1) := by decide +kernel
theorem dX6_withThing_9 : decode cX6_withThing 9 = .ok (.iadd, 1) := by decide +kernel
theorem dX6_withThing_10 : decode cX6_withThing 10 = .ok (.iaload, 1) := by decide +kernel
theorem dX6_withThing_11 : decode cX6_withThing 11 = .ok (.aload_n 0, 1) := by decide +kernel
theorem dX6_withThing_12 : decode cX6_withThing 12 = .ok (.getfield 18, 3) := by decide +kernel
theorem dX6_withThing_15 : decode cX6_withThing 15 = .ok (.iload_n 1, 1) := by decide +kernel
theorem dX6_withThing_16 : decode cX6_withThing 16 = .ok (.iconst 1, 1) := by decide +kernel
theorem dX6_withThing_17 : decode cX6_withThing 17 = .ok (.iadd, 1) := by decide +kernel
theorem dX6_withThing_18 : decode cX6_withThing 18 = .ok (.sipush 256, 3) := by decide +kernel
theorem dX6_withThing_21 : decode cX6_withThing 21 = .ok (.imul, 1) := by decide +kernel
theorem dX6_withThing_22 : decode cX6_withThing 22 = .ok (.iload_n 2, 1) := by decide +kernel
theorem dX6_withThing_23 : decode cX6_withThing 23 = .ok (.iconst 1, 1) := by decide +kernel
theorem dX6_withThing_24 : decode cX6_withThing 24 = .ok (.iload_n 3, 1) := by decide +kernel
theorem dX6_withThing_25 : decode cX6_withThing 25 = .ok (.ishl, 1) := by decide +kernel
theorem dX6_withThing_26 : decode cX6_withThing 26 = .ok (.ior, 1) := by decide +kernel
theorem dX6_withThing_27 : decode cX6_withThing 27 = .ok (.iadd, 1) := by decide +kernel
theorem dX6_withThing_28 : decode cX6_withThing 28 = .ok (.iaload, 1) := by decide +kernel
theorem dX6_withThing_29 : decode cX6_withThing 29 = .ok (.iadd, 1) := by decide +kernel
theorem dX6_withThing_30 : decode cX6_withThing 30 = .ok (.ireturn, 1) := by decide +kernel
def fX6_withThing (x1 : Int32) (x2 : Int32) (x3 : Int32) (M : zM) : Option Int32 := if zin ((x1 * 8) + x3) 48 then (
  if zin (((x1 + 1) * 256) + (x2 ||| (zshl 1 x3))) 1792 then (
  some ((M.1 28 ((x1 * 8) + x3).toNatClampNeg) + (M.1 29 (((x1 + 1) * 256) + (x2 ||| (zshl 1 x3))).toNatClampNeg))) else none) else none
set_option maxHeartbeats 4000000 in
theorem cX6_withThing_ok {E : zE} {d : Nat} (hd : 0 ≤ d) (x1 : Int32) (x2 : Int32) (x3 : Int32) (M : zM) {K : Int32 → Prop} (h : wpO (fX6_withThing x1 x2 x3 M) K) : CMi E d yX6_withThing cX6_withThing 4 (some .int) [.ref 26, .int x1, .int x2, .int x3] M (fun r N => M = N ∧ K r) := by
  refine CMi.of (by decide) (Nat.le_of_ble_eq_true rfl) (fun Γ hC hr => ?_)
  have hC : Cx E Γ RX6 cX6_withThing 4 d := hC
  show G E Γ 4 0 [(0, .ref 26), (1, .int x1), (2, .int x2), (3, .int x3)] [] M
  unfold fX6_withThing at h
  refine g_aload_n (i := 0) (x := 26) hC (dX6_withThing_0) rfl rfl ?_
  refine g_getR (r := 28) hC flX6_15 (dX6_withThing_1) rfl rfl rfl ?_
  refine g_iload_n (i := 1) (x := x1) hC (dX6_withThing_4) rfl rfl ?_
  refine g_bipush (v := 8) hC (dX6_withThing_5) kb_8 ?_
  refine g_imul hC (dX6_withThing_7) ?_
  refine g_iload_n (i := 3) (x := x3) hC (dX6_withThing_8) rfl rfl ?_
  refine g_iadd hC (dX6_withThing_9) ?_
  obtain ⟨q1, h⟩ := wpO_g h
  refine g_iaload (n := 48) hC (dX6_withThing_10) rfl q1 ?_
  refine g_aload_n (i := 0) (x := 26) hC (dX6_withThing_11) rfl rfl ?_
  refine g_getR (r := 29) hC flX6_18 (dX6_withThing_12) rfl rfl rfl ?_
  refine g_iload_n (i := 1) (x := x1) hC (dX6_withThing_15) rfl rfl ?_
  refine g_iconst (v := 1) hC (dX6_withThing_16) kc_1 ?_
  refine g_iadd hC (dX6_withThing_17) ?_
  refine g_sipush (v := 256) hC (dX6_withThing_18) ks_256 ?_
  refine g_imul hC (dX6_withThing_21) ?_
  refine g_iload_n (i := 2) (x := x2) hC (dX6_withThing_22) rfl rfl ?_
  refine g_iconst (v := 1) hC (dX6_withThing_23) kc_1 ?_
  refine g_iload_n (i := 3) (x := x3) hC (dX6_withThing_24) rfl rfl ?_
  refine g_ishl hC (dX6_withThing_25) ?_
  refine g_ior hC (dX6_withThing_26) ?_
  refine g_iadd hC (dX6_withThing_27) ?_
  obtain ⟨q2, h⟩ := wpO_g h
  refine g_iaload (n := 1792) hC (dX6_withThing_28) rfl q2 ?_
  refine g_iadd hC (dX6_withThing_29) ?_
  refine g_ireturn hC hr (dX6_withThing_30) ?_
  exact ⟨rfl, wpO_s h⟩
/-! LostByState$Sharing.mostFrom(III)I -/
theorem dX6_mostFrom_0 : decode cX6_mostFrom 0 = .ok (.aload_n 0, 1) := by decide +kernel
theorem dX6_mostFrom_1 : decode cX6_mostFrom 1 = .ok (.getfield 18, 3) := by decide +kernel
theorem dX6_mostFrom_4 : decode cX6_mostFrom 4 = .ok (.iload_n 1, 1) := by decide +kernel
theorem dX6_mostFrom_5 : decode cX6_mostFrom 5 = .ok (.iconst 1, 1) := by decide +kernel
theorem dX6_mostFrom_6 : decode cX6_mostFrom 6 = .ok (.iadd, 1) := by decide +kernel
theorem dX6_mostFrom_7 : decode cX6_mostFrom 7 = .ok (.sipush 256, 3) := by decide +kernel
theorem dX6_mostFrom_10 : decode cX6_mostFrom 10 = .ok (.imul, 1) := by decide +kernel
theorem dX6_mostFrom_11 : decode cX6_mostFrom 11 = .ok (.iload_n 2, 1) := by decide +kernel
theorem dX6_mostFrom_12 : decode cX6_mostFrom 12 = .ok (.iadd, 1) := by decide +kernel
theorem dX6_mostFrom_13 : decode cX6_mostFrom 13 = .ok (.iaload, 1) := by decide +kernel
theorem dX6_mostFrom_14 : decode cX6_mostFrom 14 = .ok (.istore 4, 2) := by decide +kernel
theorem dX6_mostFrom_16 : decode cX6_mostFrom 16 = .ok (.iconst 0, 1) := by decide +kernel
theorem dX6_mostFrom_17 : decode cX6_mostFrom 17 = .ok (.istore 5, 2) := by decide +kernel
theorem dX6_mostFrom_19 : decode cX6_mostFrom 19 = .ok (.iload 5, 2) := by decide +kernel
theorem dX6_mostFrom_21 : decode cX6_mostFrom 21 = .ok (.bipush 8, 2) := by decide +kernel
theorem dX6_mostFrom_23 : decode cX6_mostFrom 23 = .ok (.if_icmp .ge 37, 3) := by decide +kernel
theorem dX6_mostFrom_26 : decode cX6_mostFrom 26 = .ok (.iload_n 3, 1) := by decide +kernel
theorem dX6_mostFrom_27 : decode cX6_mostFrom 27 = .ok (.iload_n 2, 1) := by decide +kernel
theorem dX6_mostFrom_28 : decode cX6_mostFrom 28 = .ok (.iconst (-1), 1) := by decide +kernel
theorem dX6_mostFrom_29 : decode cX6_mostFrom 29 = .ok (.ixor, 1) := by decide +kernel
theorem dX6_mostFrom_30 : decode cX6_mostFrom 30 = .ok (.iand, 1) := by decide +kernel
theorem dX6_mostFrom_31 : decode cX6_mostFrom 31 = .ok (.iload 5, 2) := by decide +kernel
theorem dX6_mostFrom_33 : decode cX6_mostFrom 33 = .ok (.invokestatic 25, 3) := by decide +kernel
theorem dX6_mostFrom_36 : decode cX6_mostFrom 36 = .ok (.ifCond .eq 18, 3) := by decide +kernel
theorem dX6_mostFrom_39 : decode cX6_mostFrom 39 = .ok (.iload 4, 2) := by decide +kernel
theorem dX6_mostFrom_41 : decode cX6_mostFrom 41 = .ok (.aload_n 0, 1) := by decide +kernel
theorem dX6_mostFrom_42 : decode cX6_mostFrom 42 = .ok (.iload_n 1, 1) := by decide +kernel
theorem dX6_mostFrom_43 : decode cX6_mostFrom 43 = .ok (.iload_n 2, 1) := by decide +kernel
theorem dX6_mostFrom_44 : decode cX6_mostFrom 44 = .ok (.iload 5, 2) := by decide +kernel
theorem dX6_mostFrom_46 : decode cX6_mostFrom 46 = .ok (.invokevirtual 29, 3) := by decide +kernel
theorem dX6_mostFrom_49 : decode cX6_mostFrom 49 = .ok (.invokestatic 32, 3) := by decide +kernel
theorem dX6_mostFrom_52 : decode cX6_mostFrom 52 = .ok (.istore 4, 2) := by decide +kernel
theorem dX6_mostFrom_54 : decode cX6_mostFrom 54 = .ok (.iinc 5 1, 3) := by decide +kernel
theorem dX6_mostFrom_57 : decode cX6_mostFrom 57 = .ok (.goto (-38), 3) := by decide +kernel
theorem dX6_mostFrom_60 : decode cX6_mostFrom 60 = .ok (.iload 4, 2) := by decide +kernel
theorem dX6_mostFrom_62 : decode cX6_mostFrom 62 = .ok (.ireturn, 1) := by decide +kernel
def fX6_mostFrom_L19 (x1 : Int32) (x2 : Int32) (x3 : Int32) (M : zM) : Nat → Int32 → Int32 → Option Int32
  | 0, _, _ => none
  | n + 1, x4, x5 => if 8 ≤ x5 then (
    some x4)
    else (
    (if (fX11_isOf (x3 &&& (x2 ^^^ (-1))) x5) = 0 then (
    some x4)
    else (
    (fX6_withThing x1 x2 x5 M).bind fun (r4 : Int32) =>
    zlet (zmax x4 r4) fun (x4_52 : Int32) =>
    some x4_52) : Option Int32).bind fun (x4_54 : Int32) =>
    fX6_mostFrom_L19 x1 x2 x3 M n x4_54 (x5 + 1))
def fX6_mostFrom (x1 : Int32) (x2 : Int32) (x3 : Int32) (M : zM) : Option Int32 := if zin (((x1 + 1) * 256) + x2) 1792 then (
  zlet (M.1 29 (((x1 + 1) * 256) + x2).toNatClampNeg) fun (x4_14 : Int32) =>
  (fX6_mostFrom_L19 x1 x2 x3 M 4000 x4_14 0).bind fun (x4_60 : Int32) =>
  some x4_60) else none
set_option maxHeartbeats 4000000 in
theorem lX6_mostFrom_19 {E : zE} {Γ : zT} {d : Nat} {K1 : Int32 → Prop} (hC : Cx E Γ RX6 cX6_mostFrom 6 d) (hd : 1 ≤ d) (x1 : Int32) (x2 : Int32) (x3 : Int32) (M : zM) (hx : ∀ (x4_60 : Int32), K1 x4_60 → G E Γ 6 60 [(4, .int x4_60)] [] M) :
    ∀ (n : Nat) (x4 : Int32) (x5 : Int32), wpO (fX6_mostFrom_L19 x1 x2 x3 M n x4 x5) K1 → G E Γ 6 19 [(0, .ref 26), (1, .int x1), (2, .int x2), (3, .int x3), (4, .int x4), (5, .int x5)] [] M := by
  intro n
  induction n with
  | zero =>
    intro x4 x5 h
    exact (wpO_0 h).elim
  | succ n ih =>
    intro x4 x5 h
    rw [fX6_mostFrom_L19.eq_2] at h
    refine g_iload (i := 5) (x := x5) hC (dX6_mostFrom_19) rfl ?_
    refine g_bipush (v := 8) hC (dX6_mostFrom_21) kb_8 ?_
    refine g_icmp_ge (tgt := 60) hC (dX6_mostFrom_23) (by decide) (fun c23 => ?_) (fun c23 => ?_)
    · have h := wpO_t c23 h
      refine g_sub (lv' := [(4, .int x4)]) [4] rfl ?_
      exact hx _ (wpO_s h)
    · have h := wpO_f c23 h
      refine g_iload_n (i := 3) (x := x3) hC (dX6_mostFrom_26) rfl rfl ?_
      refine g_iload_n (i := 2) (x := x2) hC (dX6_mostFrom_27) rfl rfl ?_
      refine g_iconst (v := (-1)) hC (dX6_mostFrom_28) kc_m1 ?_
      refine g_ixor hC (dX6_mostFrom_29) ?_
      refine g_iand hC (dX6_mostFrom_30) ?_
      refine g_iload (i := 5) (x := x5) hC (dX6_mostFrom_31) rfl ?_
      refine g_callNi ([.int (x3 &&& (x2 ^^^ (-1))), .int x5]) hC wnX6_25 (dX6_mostFrom_33) rfl (by omega) (Nat.le_of_ble_eq_true rfl) (cX11_isOf_ok (by omega) (x3 &&& (x2 ^^^ (-1))) x5 M (K := fun r => r = fX11_isOf (x3 &&& (x2 ^^^ (-1))) x5) rfl) (fun r N q => ?_)
      obtain ⟨rfl, rfl⟩ := q
      refine wpO_bJ h (fun KJ3 hKJ3 h => ?_)
      have hJ3 : ∀ (x4_54 : Int32), KJ3 x4_54 → G E Γ 6 54 [(0, .ref 26), (1, .int x1), (2, .int x2), (3, .int x3), (4, .int x4_54), (5, .int x5)] [] M := by
        intro x4_54 h
        have h := hKJ3 _ h
        refine g_iinc (x := x5) (v := (x5 + 1)) (lv2 := [(5, .int (x5 + 1)), (0, .ref 26), (1, .int x1), (2, .int x2), (3, .int x3), (4, .int x4_54)]) hC (dX6_mostFrom_54) rfl rfl (by decide) rfl ?_
        refine g_goto (tgt := 19) hC (dX6_mostFrom_57) (by decide) ?_
        refine g_sub (lv' := [(0, .ref 26), (1, .int x1), (2, .int x2), (3, .int x3), (4, .int x4_54), (5, .int (x5 + 1))]) [1, 2, 3, 4, 5, 0] rfl ?_
        exact ih _ _ h
      refine g_if_eq (tgt := 54) hC (dX6_mostFrom_36) (by decide) (fun c36 => ?_) (fun c36 => ?_)
      · have h := wpO_t c36 h
        exact hJ3 _ (wpO_s h)
      · have h := wpO_f c36 h
        refine g_iload (i := 4) (x := x4) hC (dX6_mostFrom_39) rfl ?_
        refine g_aload_n (i := 0) (x := 26) hC (dX6_mostFrom_41) rfl rfl ?_
        refine g_iload_n (i := 1) (x := x1) hC (dX6_mostFrom_42) rfl rfl ?_
        refine g_iload_n (i := 2) (x := x2) hC (dX6_mostFrom_43) rfl rfl ?_
        refine g_iload (i := 5) (x := x5) hC (dX6_mostFrom_44) rfl ?_
        have h := wpO_b h
        refine g_callVi ([.int x1, .int x2, .int x5]) hC wvX6_29 (dX6_mostFrom_46) rfl rfl (by omega) (Nat.le_of_ble_eq_true rfl) (cX6_withThing_ok (by omega) x1 x2 x5 M h) (fun r4 N q => ?_)
        obtain ⟨rfl, h⟩ := q
        refine g_max hC wmX6_32 (dX6_mostFrom_49) (by omega) (Nat.le_of_ble_eq_true rfl) ?_
        refine g_nmi (fun x4_52 e_x4_52 => ?_)
        have h := wpO_n e_x4_52 h
        refine g_istore (i := 4) (lv2 := [(4, .int x4_52), (0, .ref 26), (1, .int x1), (2, .int x2), (3, .int x3), (5, .int x5)]) hC (dX6_mostFrom_52) (by decide) rfl ?_
        refine g_sub (lv' := [(0, .ref 26), (1, .int x1), (2, .int x2), (3, .int x3), (4, .int x4_52), (5, .int x5)]) [1, 2, 3, 4, 0, 5] rfl ?_
        exact hJ3 _ (wpO_s h)
set_option maxHeartbeats 4000000 in
theorem cX6_mostFrom_ok {E : zE} {d : Nat} (hd : 1 ≤ d) (x1 : Int32) (x2 : Int32) (x3 : Int32) (M : zM) {K : Int32 → Prop} (h : wpO (fX6_mostFrom x1 x2 x3 M) K) : CMi E d yX6_mostFrom cX6_mostFrom 6 (some .int) [.ref 26, .int x1, .int x2, .int x3] M (fun r N => M = N ∧ K r) := by
  refine CMi.of (by decide) (Nat.le_of_ble_eq_true rfl) (fun Γ hC hr => ?_)
  have hC : Cx E Γ RX6 cX6_mostFrom 6 d := hC
  show G E Γ 6 0 [(0, .ref 26), (1, .int x1), (2, .int x2), (3, .int x3)] [] M
  unfold fX6_mostFrom at h
  refine g_aload_n (i := 0) (x := 26) hC (dX6_mostFrom_0) rfl rfl ?_
  refine g_getR (r := 29) hC flX6_18 (dX6_mostFrom_1) rfl rfl rfl ?_
  refine g_iload_n (i := 1) (x := x1) hC (dX6_mostFrom_4) rfl rfl ?_
  refine g_iconst (v := 1) hC (dX6_mostFrom_5) kc_1 ?_
  refine g_iadd hC (dX6_mostFrom_6) ?_
  refine g_sipush (v := 256) hC (dX6_mostFrom_7) ks_256 ?_
  refine g_imul hC (dX6_mostFrom_10) ?_
  refine g_iload_n (i := 2) (x := x2) hC (dX6_mostFrom_11) rfl rfl ?_
  refine g_iadd hC (dX6_mostFrom_12) ?_
  obtain ⟨q1, h⟩ := wpO_g h
  refine g_iaload (n := 1792) hC (dX6_mostFrom_13) rfl q1 ?_
  refine g_nmi (fun x4_14 e_x4_14 => ?_)
  have h := wpO_n e_x4_14 h
  refine g_istore (i := 4) (lv2 := [(4, .int x4_14), (0, .ref 26), (1, .int x1), (2, .int x2), (3, .int x3)]) hC (dX6_mostFrom_14) (by decide) rfl ?_
  refine g_iconst (v := 0) hC (dX6_mostFrom_16) kc_0 ?_
  refine g_istore (i := 5) (lv2 := [(5, .int 0), (4, .int x4_14), (0, .ref 26), (1, .int x1), (2, .int x2), (3, .int x3)]) hC (dX6_mostFrom_17) (by decide) rfl ?_
  refine g_sub (lv' := [(0, .ref 26), (1, .int x1), (2, .int x2), (3, .int x3), (4, .int x4_14), (5, .int 0)]) [2, 3, 4, 5, 1, 0] rfl ?_
  refine wpO_bJ h (fun KL19 hKL19 h => ?_)
  refine lX6_mostFrom_19 (K1 := KL19) hC (by omega) x1 x2 x3 M (fun x4_60 h => ?_) _ _ _ h
  have h := hKL19 _ h
  refine g_iload (i := 4) (x := x4_60) hC (dX6_mostFrom_60) rfl ?_
  refine g_ireturn hC hr (dX6_mostFrom_62) ?_
  exact ⟨rfl, wpO_s h⟩
/-! LostByState$Sharing.workOut(II)V -/
theorem dX6_workOut_0 : decode cX6_workOut 0 = .ok (.iconst 0, 1) := by decide +kernel
theorem dX6_workOut_1 : decode cX6_workOut 1 = .ok (.istore_n 3, 1) := by decide +kernel
theorem dX6_workOut_2 : decode cX6_workOut 2 = .ok (.iload_n 3, 1) := by decide +kernel
theorem dX6_workOut_3 : decode cX6_workOut 3 = .ok (.sipush 256, 3) := by decide +kernel
theorem dX6_workOut_6 : decode cX6_workOut 6 = .ok (.if_icmp .ge 22, 3) := by decide +kernel
theorem dX6_workOut_9 : decode cX6_workOut 9 = .ok (.aload_n 0, 1) := by decide +kernel
theorem dX6_workOut_10 : decode cX6_workOut 10 = .ok (.getfield 18, 3) := by decide +kernel
theorem dX6_workOut_13 : decode cX6_workOut 13 = .ok (.iload_n 1, 1) := by decide +kernel
theorem dX6_workOut_14 : decode cX6_workOut 14 = .ok (.sipush 256, 3) := by decide +kernel
theorem dX6_workOut_17 : decode cX6_workOut 17 = .ok (.imul, 1) := by decide +kernel
theorem dX6_workOut_18 : decode cX6_workOut 18 = .ok (.iload_n 3, 1) := by decide +kernel
theorem dX6_workOut_19 : decode cX6_workOut 19 = .ok (.iadd, 1) := by decide +kernel
theorem dX6_workOut_20 : decode cX6_workOut 20 = .ok (.iconst 0, 1) := by decide +kernel
theorem dX6_workOut_21 : decode cX6_workOut 21 = .ok (.iastore, 1) := by decide +kernel
theorem dX6_workOut_22 : decode cX6_workOut 22 = .ok (.iinc 3 1, 3) := by decide +kernel
theorem dX6_workOut_25 : decode cX6_workOut 25 = .ok (.goto (-23), 3) := by decide +kernel
theorem dX6_workOut_28 : decode cX6_workOut 28 = .ok (.iload_n 1, 1) := by decide +kernel
theorem dX6_workOut_29 : decode cX6_workOut 29 = .ok (.iconst 1, 1) := by decide +kernel
theorem dX6_workOut_30 : decode cX6_workOut 30 = .ok (.isub, 1) := by decide +kernel
theorem dX6_workOut_31 : decode cX6_workOut 31 = .ok (.istore_n 3, 1) := by decide +kernel
theorem dX6_workOut_32 : decode cX6_workOut 32 = .ok (.iload_n 3, 1) := by decide +kernel
theorem dX6_workOut_33 : decode cX6_workOut 33 = .ok (.ifCond .lt 54, 3) := by decide +kernel
theorem dX6_workOut_36 : decode cX6_workOut 36 = .ok (.iconst 0, 1) := by decide +kernel
theorem dX6_workOut_37 : decode cX6_workOut 37 = .ok (.istore 4, 2) := by decide +kernel
theorem dX6_workOut_39 : decode cX6_workOut 39 = .ok (.iload 4, 2) := by decide +kernel
theorem dX6_workOut_41 : decode cX6_workOut 41 = .ok (.iload_n 2, 1) := by decide +kernel
theorem dX6_workOut_42 : decode cX6_workOut 42 = .ok (.if_icmp .gt 39, 3) := by decide +kernel
theorem dX6_workOut_45 : decode cX6_workOut 45 = .ok (.iload 4, 2) := by decide +kernel
theorem dX6_workOut_47 : decode cX6_workOut 47 = .ok (.iload_n 2, 1) := by decide +kernel
theorem dX6_workOut_48 : decode cX6_workOut 48 = .ok (.iconst (-1), 1) := by decide +kernel
theorem dX6_workOut_49 : decode cX6_workOut 49 = .ok (.ixor, 1) := by decide +kernel
theorem dX6_workOut_50 : decode cX6_workOut 50 = .ok (.iand, 1) := by decide +kernel
theorem dX6_workOut_51 : decode cX6_workOut 51 = .ok (.ifCond .ne 24, 3) := by decide +kernel
theorem dX6_workOut_54 : decode cX6_workOut 54 = .ok (.aload_n 0, 1) := by decide +kernel
theorem dX6_workOut_55 : decode cX6_workOut 55 = .ok (.getfield 18, 3) := by decide +kernel
theorem dX6_workOut_58 : decode cX6_workOut 58 = .ok (.iload_n 3, 1) := by decide +kernel
theorem dX6_workOut_59 : decode cX6_workOut 59 = .ok (.sipush 256, 3) := by decide +kernel
theorem dX6_workOut_62 : decode cX6_workOut 62 = .ok (.imul, 1) := by decide +kernel
theorem dX6_workOut_63 : decode cX6_workOut 63 = .ok (.iload 4, 2) := by decide +kernel
theorem dX6_workOut_65 : decode cX6_workOut 65 = .ok (.iadd, 1) := by decide +kernel
theorem dX6_workOut_66 : decode cX6_workOut 66 = .ok (.aload_n 0, 1) := by decide +kernel
theorem dX6_workOut_67 : decode cX6_workOut 67 = .ok (.iload_n 3, 1) := by decide +kernel
theorem dX6_workOut_68 : decode cX6_workOut 68 = .ok (.iload 4, 2) := by decide +kernel
theorem dX6_workOut_70 : decode cX6_workOut 70 = .ok (.iload_n 2, 1) := by decide +kernel
theorem dX6_workOut_71 : decode cX6_workOut 71 = .ok (.invokevirtual 21, 3) := by decide +kernel
theorem dX6_workOut_74 : decode cX6_workOut 74 = .ok (.iastore, 1) := by decide +kernel
theorem dX6_workOut_75 : decode cX6_workOut 75 = .ok (.iinc 4 1, 3) := by decide +kernel
theorem dX6_workOut_78 : decode cX6_workOut 78 = .ok (.goto (-39), 3) := by decide +kernel
theorem dX6_workOut_81 : decode cX6_workOut 81 = .ok (.iinc 3 (-1), 3) := by decide +kernel
theorem dX6_workOut_84 : decode cX6_workOut 84 = .ok (.goto (-52), 3) := by decide +kernel
theorem dX6_workOut_87 : decode cX6_workOut 87 = .ok (.return_, 1) := by decide +kernel
def fX6_workOut_L2 (x1 : Int32) (x2 : Int32) : Nat → Int32 → zM → Option zM
  | 0, _, _ => none
  | n + 1, x3, M => if 256 ≤ x3 then (
    some M)
    else (
    if zin ((x1 * 256) + x3) 1792 then (
    zlet (zSI M 29 ((x1 * 256) + x3).toNatClampNeg 0) fun (M21 : zM) =>
    fX6_workOut_L2 x1 x2 n (x3 + 1) M21) else none)
def fX6_workOut_L39 (x2 : Int32) (x3 : Int32) : Nat → Int32 → zM → Option zM
  | 0, _, _ => none
  | n + 1, x4, M => if x2 < x4 then (
    some M)
    else (
    (if (x4 &&& (x2 ^^^ (-1))) = 0 then (
    (fX6_mostFrom x3 x4 x2 M).bind fun (r3 : Int32) =>
    if zin ((x3 * 256) + x4) 1792 then (
    zlet (zSI M 29 ((x3 * 256) + x4).toNatClampNeg r3) fun (M74 : zM) =>
    some M74) else none)
    else (
    some M) : Option zM).bind fun (M_75 : zM) =>
    fX6_workOut_L39 x2 x3 n (x4 + 1) M_75)
def fX6_workOut_L32 (x2 : Int32) : Nat → Int32 → zM → Option zM
  | 0, _, _ => none
  | n + 1, x3, M => if x3 < 0 then (
    some M)
    else (
    (fX6_workOut_L39 x2 x3 4000 0 M).bind fun (M_81 : zM) =>
    fX6_workOut_L32 x2 n (x3 + (-1)) M_81)
def fX6_workOut (x1 : Int32) (x2 : Int32) (M : zM) : Option zM := (fX6_workOut_L2 x1 x2 4000 0 M).bind fun (M_28 : zM) =>
  zlet (x1 - 1) fun (x3_31 : Int32) =>
  (fX6_workOut_L32 x2 4000 x3_31 M_28).bind fun (M_87 : zM) =>
  some M_87
set_option maxHeartbeats 4000000 in
theorem lX6_workOut_2 {E : zE} {Γ : zT} {d : Nat} {K1 : zM → Prop} (hC : Cx E Γ RX6 cX6_workOut 5 d) (hd : 2 ≤ d) (x1 : Int32) (x2 : Int32) (hx : ∀ (M_28 : zM), K1 M_28 → G E Γ 5 28 [(0, .ref 26), (1, .int x1), (2, .int x2)] [] M_28) :
    ∀ (n : Nat) (x3 : Int32) (M : zM), wpO (fX6_workOut_L2 x1 x2 n x3 M) K1 → G E Γ 5 2 [(0, .ref 26), (1, .int x1), (2, .int x2), (3, .int x3)] [] M := by
  intro n
  induction n with
  | zero =>
    intro x3 M h
    exact (wpO_0 h).elim
  | succ n ih =>
    intro x3 M h
    rw [fX6_workOut_L2.eq_2] at h
    refine g_iload_n (i := 3) (x := x3) hC (dX6_workOut_2) rfl rfl ?_
    refine g_sipush (v := 256) hC (dX6_workOut_3) ks_256 ?_
    refine g_icmp_ge (tgt := 28) hC (dX6_workOut_6) (by decide) (fun c6 => ?_) (fun c6 => ?_)
    · have h := wpO_t c6 h
      refine g_sub (lv' := [(0, .ref 26), (1, .int x1), (2, .int x2)]) [0, 1, 2] rfl ?_
      exact hx _ (wpO_s h)
    · have h := wpO_f c6 h
      refine g_aload_n (i := 0) (x := 26) hC (dX6_workOut_9) rfl rfl ?_
      refine g_getR (r := 29) hC flX6_18 (dX6_workOut_10) rfl rfl rfl ?_
      refine g_iload_n (i := 1) (x := x1) hC (dX6_workOut_13) rfl rfl ?_
      refine g_sipush (v := 256) hC (dX6_workOut_14) ks_256 ?_
      refine g_imul hC (dX6_workOut_17) ?_
      refine g_iload_n (i := 3) (x := x3) hC (dX6_workOut_18) rfl rfl ?_
      refine g_iadd hC (dX6_workOut_19) ?_
      refine g_iconst (v := 0) hC (dX6_workOut_20) kc_0 ?_
      obtain ⟨q1, h⟩ := wpO_g h
      refine g_iastore (n := 1792) hC (dX6_workOut_21) rfl q1 ?_
      refine g_nmM (fun M21 e_M21 => ?_)
      have h := wpO_n e_M21 h
      refine g_iinc (x := x3) (v := (x3 + 1)) (lv2 := [(3, .int (x3 + 1)), (0, .ref 26), (1, .int x1), (2, .int x2)]) hC (dX6_workOut_22) rfl rfl (by decide) rfl ?_
      refine g_goto (tgt := 2) hC (dX6_workOut_25) (by decide) ?_
      refine g_sub (lv' := [(0, .ref 26), (1, .int x1), (2, .int x2), (3, .int (x3 + 1))]) [1, 2, 3, 0] rfl ?_
      exact ih _ _ h
set_option maxHeartbeats 4000000 in
theorem lX6_workOut_39 {E : zE} {Γ : zT} {d : Nat} {K1 : zM → Prop} (hC : Cx E Γ RX6 cX6_workOut 5 d) (hd : 2 ≤ d) (x2 : Int32) (x3 : Int32) (hx : ∀ (M_81 : zM), K1 M_81 → G E Γ 5 81 [(0, .ref 26), (2, .int x2), (3, .int x3)] [] M_81) :
    ∀ (n : Nat) (x4 : Int32) (M : zM), wpO (fX6_workOut_L39 x2 x3 n x4 M) K1 → G E Γ 5 39 [(0, .ref 26), (2, .int x2), (3, .int x3), (4, .int x4)] [] M := by
  intro n
  induction n with
  | zero =>
    intro x4 M h
    exact (wpO_0 h).elim
  | succ n ih =>
    intro x4 M h
    rw [fX6_workOut_L39.eq_2] at h
    refine g_iload (i := 4) (x := x4) hC (dX6_workOut_39) rfl ?_
    refine g_iload_n (i := 2) (x := x2) hC (dX6_workOut_41) rfl rfl ?_
    refine g_icmp_gt (tgt := 81) hC (dX6_workOut_42) (by decide) (fun c42 => ?_) (fun c42 => ?_)
    · have h := wpO_t c42 h
      refine g_sub (lv' := [(0, .ref 26), (2, .int x2), (3, .int x3)]) [0, 1, 2] rfl ?_
      exact hx _ (wpO_s h)
    · have h := wpO_f c42 h
      refine g_iload (i := 4) (x := x4) hC (dX6_workOut_45) rfl ?_
      refine g_iload_n (i := 2) (x := x2) hC (dX6_workOut_47) rfl rfl ?_
      refine g_iconst (v := (-1)) hC (dX6_workOut_48) kc_m1 ?_
      refine g_ixor hC (dX6_workOut_49) ?_
      refine g_iand hC (dX6_workOut_50) ?_
      refine wpO_bJ h (fun KJ2 hKJ2 h => ?_)
      have hJ2 : ∀ (M_75 : zM), KJ2 M_75 → G E Γ 5 75 [(0, .ref 26), (2, .int x2), (3, .int x3), (4, .int x4)] [] M_75 := by
        intro M_75 h
        have h := hKJ2 _ h
        refine g_iinc (x := x4) (v := (x4 + 1)) (lv2 := [(4, .int (x4 + 1)), (0, .ref 26), (2, .int x2), (3, .int x3)]) hC (dX6_workOut_75) rfl rfl (by decide) rfl ?_
        refine g_goto (tgt := 39) hC (dX6_workOut_78) (by decide) ?_
        refine g_sub (lv' := [(0, .ref 26), (2, .int x2), (3, .int x3), (4, .int (x4 + 1))]) [1, 2, 3, 0] rfl ?_
        exact ih _ _ h
      refine g_if_ne (tgt := 75) hC (dX6_workOut_51) (by decide) (fun c51 => ?_) (fun c51 => ?_)
      · have h := wpO_f c51 h
        exact hJ2 _ (wpO_s h)
      · have h := wpO_t c51 h
        refine g_aload_n (i := 0) (x := 26) hC (dX6_workOut_54) rfl rfl ?_
        refine g_getR (r := 29) hC flX6_18 (dX6_workOut_55) rfl rfl rfl ?_
        refine g_iload_n (i := 3) (x := x3) hC (dX6_workOut_58) rfl rfl ?_
        refine g_sipush (v := 256) hC (dX6_workOut_59) ks_256 ?_
        refine g_imul hC (dX6_workOut_62) ?_
        refine g_iload (i := 4) (x := x4) hC (dX6_workOut_63) rfl ?_
        refine g_iadd hC (dX6_workOut_65) ?_
        refine g_aload_n (i := 0) (x := 26) hC (dX6_workOut_66) rfl rfl ?_
        refine g_iload_n (i := 3) (x := x3) hC (dX6_workOut_67) rfl rfl ?_
        refine g_iload (i := 4) (x := x4) hC (dX6_workOut_68) rfl ?_
        refine g_iload_n (i := 2) (x := x2) hC (dX6_workOut_70) rfl rfl ?_
        have h := wpO_b h
        refine g_callVi ([.int x3, .int x4, .int x2]) hC wvX6_21 (dX6_workOut_71) rfl rfl (by omega) (Nat.le_of_ble_eq_true rfl) (cX6_mostFrom_ok (by omega) x3 x4 x2 M h) (fun r3 N q => ?_)
        obtain ⟨rfl, h⟩ := q
        obtain ⟨q4, h⟩ := wpO_g h
        refine g_iastore (n := 1792) hC (dX6_workOut_74) rfl q4 ?_
        refine g_nmM (fun M74 e_M74 => ?_)
        have h := wpO_n e_M74 h
        exact hJ2 _ (wpO_s h)
set_option maxHeartbeats 4000000 in
theorem lX6_workOut_32 {E : zE} {Γ : zT} {d : Nat} {K1 : zM → Prop} (hC : Cx E Γ RX6 cX6_workOut 5 d) (hd : 2 ≤ d) (x2 : Int32) (hx : ∀ (M_87 : zM), K1 M_87 → G E Γ 5 87 [] [] M_87) :
    ∀ (n : Nat) (x3 : Int32) (M : zM), wpO (fX6_workOut_L32 x2 n x3 M) K1 → G E Γ 5 32 [(0, .ref 26), (2, .int x2), (3, .int x3)] [] M := by
  intro n
  induction n with
  | zero =>
    intro x3 M h
    exact (wpO_0 h).elim
  | succ n ih =>
    intro x3 M h
    rw [fX6_workOut_L32.eq_2] at h
    refine g_iload_n (i := 3) (x := x3) hC (dX6_workOut_32) rfl rfl ?_
    refine g_if_lt (tgt := 87) hC (dX6_workOut_33) (by decide) (fun c33 => ?_) (fun c33 => ?_)
    · have h := wpO_t c33 h
      refine g_sub (lv' := []) [] rfl ?_
      exact hx _ (wpO_s h)
    · have h := wpO_f c33 h
      refine g_iconst (v := 0) hC (dX6_workOut_36) kc_0 ?_
      refine g_istore (i := 4) (lv2 := [(4, .int 0), (0, .ref 26), (2, .int x2), (3, .int x3)]) hC (dX6_workOut_37) (by decide) rfl ?_
      refine g_sub (lv' := [(0, .ref 26), (2, .int x2), (3, .int x3), (4, .int 0)]) [1, 2, 3, 0] rfl ?_
      refine wpO_bJ h (fun KL39 hKL39 h => ?_)
      refine lX6_workOut_39 (K1 := KL39) hC (by omega) x2 x3 (fun M_81 h => ?_) _ _ _ h
      have h := hKL39 _ h
      refine g_iinc (x := x3) (v := (x3 + (-1))) (lv2 := [(3, .int (x3 + (-1))), (0, .ref 26), (2, .int x2)]) hC (dX6_workOut_81) rfl rfl (by decide) rfl ?_
      refine g_goto (tgt := 32) hC (dX6_workOut_84) (by decide) ?_
      refine g_sub (lv' := [(0, .ref 26), (2, .int x2), (3, .int (x3 + (-1)))]) [1, 2, 0] rfl ?_
      exact ih _ _ h
set_option maxHeartbeats 4000000 in
theorem cX6_workOut_ok {E : zE} {d : Nat} (hd : 2 ≤ d) (x1 : Int32) (x2 : Int32) (M : zM) {K : zM → Prop} (h : wpO (fX6_workOut x1 x2 M) K) : CMv E d yX6_workOut cX6_workOut 5 (none) [.ref 26, .int x1, .int x2] M K := by
  refine CMv.of (by decide) (Nat.le_of_ble_eq_true rfl) (fun Γ hC hr => ?_)
  have hC : Cx E Γ RX6 cX6_workOut 5 d := hC
  show G E Γ 5 0 [(0, .ref 26), (1, .int x1), (2, .int x2)] [] M
  unfold fX6_workOut at h
  refine g_iconst (v := 0) hC (dX6_workOut_0) kc_0 ?_
  refine g_istore_n (i := 3) (lv2 := [(3, .int 0), (0, .ref 26), (1, .int x1), (2, .int x2)]) hC (dX6_workOut_1) rfl (by decide) rfl ?_
  refine g_sub (lv' := [(0, .ref 26), (1, .int x1), (2, .int x2), (3, .int 0)]) [1, 2, 3, 0] rfl ?_
  refine wpO_bJ h (fun KL2 hKL2 h => ?_)
  refine lX6_workOut_2 (K1 := KL2) hC (by omega) x1 x2 (fun M_28 h => ?_) _ _ _ h
  have h := hKL2 _ h
  refine g_iload_n (i := 1) (x := x1) hC (dX6_workOut_28) rfl rfl ?_
  refine g_iconst (v := 1) hC (dX6_workOut_29) kc_1 ?_
  refine g_isub hC (dX6_workOut_30) ?_
  refine g_nmi (fun x3_31 e_x3_31 => ?_)
  have h := wpO_n e_x3_31 h
  refine g_istore_n (i := 3) (lv2 := [(3, .int x3_31), (0, .ref 26), (1, .int x1), (2, .int x2)]) hC (dX6_workOut_31) rfl (by decide) rfl ?_
  refine g_sub (lv' := [(0, .ref 26), (2, .int x2), (3, .int x3_31)]) [1, 3, 0] rfl ?_
  refine wpO_bJ h (fun KL32 hKL32 h => ?_)
  refine lX6_workOut_32 (K1 := KL32) hC (by omega) x2 (fun M_87 h => ?_) _ _ _ h
  have h := hKL32 _ h
  refine g_vreturn hC hr (dX6_workOut_87) ?_
  exact wpO_s h
/-! LostByState$Sharing.leastChoice(III)I -/
theorem dX6_leastChoice_0 : decode cX6_leastChoice 0 = .ok (.aload_n 0, 1) := by decide +kernel
theorem dX6_leastChoice_1 : decode cX6_leastChoice 1 = .ok (.getfield 18, 3) := by decide +kernel
theorem dX6_leastChoice_4 : decode cX6_leastChoice 4 = .ok (.iload_n 1, 1) := by decide +kernel
theorem dX6_leastChoice_5 : decode cX6_leastChoice 5 = .ok (.sipush 256, 3) := by decide +kernel
theorem dX6_leastChoice_8 : decode cX6_leastChoice 8 = .ok (.imul, 1) := by decide +kernel
theorem dX6_leastChoice_9 : decode cX6_leastChoice 9 = .ok (.iload_n 2, 1) := by decide +kernel
theorem dX6_leastChoice_10 : decode cX6_leastChoice 10 = .ok (.iadd, 1) := by decide +kernel
theorem dX6_leastChoice_11 : decode cX6_leastChoice 11 = .ok (.iaload, 1) := by decide +kernel
theorem dX6_leastChoice_12 : decode cX6_leastChoice 12 = .ok (.istore 4, 2) := by decide +kernel
theorem dX6_leastChoice_14 : decode cX6_leastChoice 14 = .ok (.aload_n 0, 1) := by decide +kernel
theorem dX6_leastChoice_15 : decode cX6_leastChoice 15 = .ok (.getfield 18, 3) := by decide +kernel
theorem dX6_leastChoice_18 : decode cX6_leastChoice 18 = .ok (.iload_n 1, 1) := by decide +kernel
theorem dX6_leastChoice_19 : decode cX6_leastChoice 19 = .ok (.iconst 1, 1) := by decide +kernel
theorem dX6_leastChoice_20 : decode cX6_leastChoice 20 = .ok (.iadd, 1) := by decide +kernel
theorem dX6_leastChoice_21 : decode cX6_leastChoice 21 = .ok (.sipush 256, 3) := by decide +kernel
theorem dX6_leastChoice_24 : decode cX6_leastChoice 24 = .ok (.imul, 1) := by decide +kernel
theorem dX6_leastChoice_25 : decode cX6_leastChoice 25 = .ok (.iload_n 2, 1) := by decide +kernel
theorem dX6_leastChoice_26 : decode cX6_leastChoice 26 = .ok (.iadd, 1) := by decide +kernel
theorem dX6_leastChoice_27 : decode cX6_leastChoice 27 = .ok (.iaload, 1) := by decide +kernel
theorem dX6_leastChoice_28 : decode cX6_leastChoice 28 = .ok (.iload 4, 2) := by decide +kernel
theorem dX6_leastChoice_30 : decode cX6_leastChoice 30 = .ok (.if_icmp .ne 5, 3) := by decide +kernel
theorem dX6_leastChoice_33 : decode cX6_leastChoice 33 = .ok (.iconst (-1), 1) := by decide +kernel
theorem dX6_leastChoice_34 : decode cX6_leastChoice 34 = .ok (.ireturn, 1) := by decide +kernel
theorem dX6_leastChoice_35 : decode cX6_leastChoice 35 = .ok (.iconst 0, 1) := by decide +kernel
theorem dX6_leastChoice_36 : decode cX6_leastChoice 36 = .ok (.istore 5, 2) := by decide +kernel
theorem dX6_leastChoice_38 : decode cX6_leastChoice 38 = .ok (.iload 5, 2) := by decide +kernel
theorem dX6_leastChoice_40 : decode cX6_leastChoice 40 = .ok (.bipush 8, 2) := by decide +kernel
theorem dX6_leastChoice_42 : decode cX6_leastChoice 42 = .ok (.if_icmp .ge 38, 3) := by decide +kernel
theorem dX6_leastChoice_45 : decode cX6_leastChoice 45 = .ok (.iload_n 3, 1) := by decide +kernel
theorem dX6_leastChoice_46 : decode cX6_leastChoice 46 = .ok (.iload_n 2, 1) := by decide +kernel
theorem dX6_leastChoice_47 : decode cX6_leastChoice 47 = .ok (.iconst (-1), 1) := by decide +kernel
theorem dX6_leastChoice_48 : decode cX6_leastChoice 48 = .ok (.ixor, 1) := by decide +kernel
theorem dX6_leastChoice_49 : decode cX6_leastChoice 49 = .ok (.iand, 1) := by decide +kernel
theorem dX6_leastChoice_50 : decode cX6_leastChoice 50 = .ok (.iload 5, 2) := by decide +kernel
theorem dX6_leastChoice_52 : decode cX6_leastChoice 52 = .ok (.invokestatic 25, 3) := by decide +kernel
theorem dX6_leastChoice_55 : decode cX6_leastChoice 55 = .ok (.ifCond .eq 19, 3) := by decide +kernel
theorem dX6_leastChoice_58 : decode cX6_leastChoice 58 = .ok (.aload_n 0, 1) := by decide +kernel
theorem dX6_leastChoice_59 : decode cX6_leastChoice 59 = .ok (.iload_n 1, 1) := by decide +kernel
theorem dX6_leastChoice_60 : decode cX6_leastChoice 60 = .ok (.iload_n 2, 1) := by decide +kernel
theorem dX6_leastChoice_61 : decode cX6_leastChoice 61 = .ok (.iload 5, 2) := by decide +kernel
theorem dX6_leastChoice_63 : decode cX6_leastChoice 63 = .ok (.invokevirtual 29, 3) := by decide +kernel
theorem dX6_leastChoice_66 : decode cX6_leastChoice 66 = .ok (.iload 4, 2) := by decide +kernel
theorem dX6_leastChoice_68 : decode cX6_leastChoice 68 = .ok (.if_icmp .ne 6, 3) := by decide +kernel
theorem dX6_leastChoice_71 : decode cX6_leastChoice 71 = .ok (.iload 5, 2) := by decide +kernel
theorem dX6_leastChoice_73 : decode cX6_leastChoice 73 = .ok (.ireturn, 1) := by decide +kernel
theorem dX6_leastChoice_74 : decode cX6_leastChoice 74 = .ok (.iinc 5 1, 3) := by decide +kernel
theorem dX6_leastChoice_77 : decode cX6_leastChoice 77 = .ok (.goto (-39), 3) := by decide +kernel
theorem dX6_leastChoice_80 : decode cX6_leastChoice 80 = .ok (.iconst (-1), 1) := by decide +kernel
theorem dX6_leastChoice_81 : decode cX6_leastChoice 81 = .ok (.ireturn, 1) := by decide +kernel
def fX6_leastChoice_L38 (x1 : Int32) (x2 : Int32) (x3 : Int32) (x4 : Int32) (M : zM) : Nat → Int32 → Option (Int32 ⊕ Unit)
  | 0, _ => none
  | n + 1, x5 => if 8 ≤ x5 then (
    some (.inr ()))
    else (
    zj (fun (_ : Unit) =>
    fX6_leastChoice_L38 x1 x2 x3 x4 M n (x5 + 1))
    fun J4 =>
    if (fX11_isOf (x3 &&& (x2 ^^^ (-1))) x5) = 0 then (
    J4 ())
    else (
    (fX6_withThing x1 x2 x5 M).bind fun (r5 : Int32) =>
    if r5 = x4 then (
    some (.inl x5))
    else (
    J4 ())))
def fX6_leastChoice (x1 : Int32) (x2 : Int32) (x3 : Int32) (M : zM) : Option Int32 := if zin ((x1 * 256) + x2) 1792 then (
  zlet (M.1 29 ((x1 * 256) + x2).toNatClampNeg) fun (x4_12 : Int32) =>
  if zin (((x1 + 1) * 256) + x2) 1792 then (
  if (M.1 29 (((x1 + 1) * 256) + x2).toNatClampNeg) = x4_12 then (
  some (-1))
  else (
  (fX6_leastChoice_L38 x1 x2 x3 x4_12 M 4000 0).bind fun q => zs q (fun r => some r)
  (fun (_ : Unit) =>
  some (-1)))) else none) else none
set_option maxHeartbeats 4000000 in
theorem lX6_leastChoice_38 {E : zE} {Γ : zT} {d : Nat} {K1 : (Int32 ⊕ Unit) → Prop} (hC : Cx E Γ RX6 cX6_leastChoice 6 d) {post : Int32 → zM → Prop} (hr : zRi E Γ (some .int) post) (hd : 1 ≤ d) (x1 : Int32) (x2 : Int32) (x3 : Int32) (x4 : Int32) (M : zM) (hret : ∀ r : Int32, K1 (.inl r) → post r M) (hx : ∀ (_ : Unit), K1 (.inr ()) → G E Γ 6 80 [] [] M) :
    ∀ (n : Nat) (x5 : Int32), wpO (fX6_leastChoice_L38 x1 x2 x3 x4 M n x5) K1 → G E Γ 6 38 [(0, .ref 26), (1, .int x1), (2, .int x2), (3, .int x3), (4, .int x4), (5, .int x5)] [] M := by
  intro n
  induction n with
  | zero =>
    intro x5 h
    exact (wpO_0 h).elim
  | succ n ih =>
    intro x5 h
    rw [fX6_leastChoice_L38.eq_2] at h
    refine g_iload (i := 5) (x := x5) hC (dX6_leastChoice_38) rfl ?_
    refine g_bipush (v := 8) hC (dX6_leastChoice_40) kb_8 ?_
    refine g_icmp_ge (tgt := 80) hC (dX6_leastChoice_42) (by decide) (fun c42 => ?_) (fun c42 => ?_)
    · have h := wpO_t c42 h
      refine g_sub (lv' := []) [] rfl ?_
      exact hx () (wpO_s h)
    · have h := wpO_f c42 h
      refine g_iload_n (i := 3) (x := x3) hC (dX6_leastChoice_45) rfl rfl ?_
      refine g_iload_n (i := 2) (x := x2) hC (dX6_leastChoice_46) rfl rfl ?_
      refine g_iconst (v := (-1)) hC (dX6_leastChoice_47) kc_m1 ?_
      refine g_ixor hC (dX6_leastChoice_48) ?_
      refine g_iand hC (dX6_leastChoice_49) ?_
      refine g_iload (i := 5) (x := x5) hC (dX6_leastChoice_50) rfl ?_
      refine g_callNi ([.int (x3 &&& (x2 ^^^ (-1))), .int x5]) hC wnX6_25 (dX6_leastChoice_52) rfl (by omega) (Nat.le_of_ble_eq_true rfl) (cX11_isOf_ok (by omega) (x3 &&& (x2 ^^^ (-1))) x5 M (K := fun r => r = fX11_isOf (x3 &&& (x2 ^^^ (-1))) x5) rfl) (fun r N q => ?_)
      obtain ⟨rfl, rfl⟩ := q
      refine wpO_j h (fun J4 hkJ4 h => ?_)
      have hJ4 : ∀ (_ : Unit), wpO (J4 ()) K1 → G E Γ 6 74 [(0, .ref 26), (1, .int x1), (2, .int x2), (3, .int x3), (4, .int x4), (5, .int x5)] [] M := by
        intro _ h
        have h := hkJ4 _ h
        refine g_iinc (x := x5) (v := (x5 + 1)) (lv2 := [(5, .int (x5 + 1)), (0, .ref 26), (1, .int x1), (2, .int x2), (3, .int x3), (4, .int x4)]) hC (dX6_leastChoice_74) rfl rfl (by decide) rfl ?_
        refine g_goto (tgt := 38) hC (dX6_leastChoice_77) (by decide) ?_
        refine g_sub (lv' := [(0, .ref 26), (1, .int x1), (2, .int x2), (3, .int x3), (4, .int x4), (5, .int (x5 + 1))]) [1, 2, 3, 4, 5, 0] rfl ?_
        exact ih _ h
      refine g_if_eq (tgt := 74) hC (dX6_leastChoice_55) (by decide) (fun c55 => ?_) (fun c55 => ?_)
      · have h := wpO_t c55 h
        exact hJ4 () h
      · have h := wpO_f c55 h
        refine g_aload_n (i := 0) (x := 26) hC (dX6_leastChoice_58) rfl rfl ?_
        refine g_iload_n (i := 1) (x := x1) hC (dX6_leastChoice_59) rfl rfl ?_
        refine g_iload_n (i := 2) (x := x2) hC (dX6_leastChoice_60) rfl rfl ?_
        refine g_iload (i := 5) (x := x5) hC (dX6_leastChoice_61) rfl ?_
        have h := wpO_b h
        refine g_callVi ([.int x1, .int x2, .int x5]) hC wvX6_29 (dX6_leastChoice_63) rfl rfl (by omega) (Nat.le_of_ble_eq_true rfl) (cX6_withThing_ok (by omega) x1 x2 x5 M h) (fun r5 N q => ?_)
        obtain ⟨rfl, h⟩ := q
        refine g_iload (i := 4) (x := x4) hC (dX6_leastChoice_66) rfl ?_
        refine g_icmp_ne (tgt := 74) hC (dX6_leastChoice_68) (by decide) (fun c68 => ?_) (fun c68 => ?_)
        · have h := wpO_f c68 h
          exact hJ4 () h
        · have h := wpO_t c68 h
          refine g_iload (i := 5) (x := x5) hC (dX6_leastChoice_71) rfl ?_
          refine g_ireturn hC hr (dX6_leastChoice_73) ?_
          exact hret _ (wpO_s h)
set_option maxHeartbeats 4000000 in
theorem cX6_leastChoice_ok {E : zE} {d : Nat} (hd : 1 ≤ d) (x1 : Int32) (x2 : Int32) (x3 : Int32) (M : zM) {K : Int32 → Prop} (h : wpO (fX6_leastChoice x1 x2 x3 M) K) : CMi E d yX6_leastChoice cX6_leastChoice 6 (some .int) [.ref 26, .int x1, .int x2, .int x3] M (fun r N => M = N ∧ K r) := by
  refine CMi.of (by decide) (Nat.le_of_ble_eq_true rfl) (fun Γ hC hr => ?_)
  have hC : Cx E Γ RX6 cX6_leastChoice 6 d := hC
  show G E Γ 6 0 [(0, .ref 26), (1, .int x1), (2, .int x2), (3, .int x3)] [] M
  unfold fX6_leastChoice at h
  refine g_aload_n (i := 0) (x := 26) hC (dX6_leastChoice_0) rfl rfl ?_
  refine g_getR (r := 29) hC flX6_18 (dX6_leastChoice_1) rfl rfl rfl ?_
  refine g_iload_n (i := 1) (x := x1) hC (dX6_leastChoice_4) rfl rfl ?_
  refine g_sipush (v := 256) hC (dX6_leastChoice_5) ks_256 ?_
  refine g_imul hC (dX6_leastChoice_8) ?_
  refine g_iload_n (i := 2) (x := x2) hC (dX6_leastChoice_9) rfl rfl ?_
  refine g_iadd hC (dX6_leastChoice_10) ?_
  obtain ⟨q1, h⟩ := wpO_g h
  refine g_iaload (n := 1792) hC (dX6_leastChoice_11) rfl q1 ?_
  refine g_nmi (fun x4_12 e_x4_12 => ?_)
  have h := wpO_n e_x4_12 h
  refine g_istore (i := 4) (lv2 := [(4, .int x4_12), (0, .ref 26), (1, .int x1), (2, .int x2), (3, .int x3)]) hC (dX6_leastChoice_12) (by decide) rfl ?_
  refine g_aload_n (i := 0) (x := 26) hC (dX6_leastChoice_14) rfl rfl ?_
  refine g_getR (r := 29) hC flX6_18 (dX6_leastChoice_15) rfl rfl rfl ?_
  refine g_iload_n (i := 1) (x := x1) hC (dX6_leastChoice_18) rfl rfl ?_
  refine g_iconst (v := 1) hC (dX6_leastChoice_19) kc_1 ?_
  refine g_iadd hC (dX6_leastChoice_20) ?_
  refine g_sipush (v := 256) hC (dX6_leastChoice_21) ks_256 ?_
  refine g_imul hC (dX6_leastChoice_24) ?_
  refine g_iload_n (i := 2) (x := x2) hC (dX6_leastChoice_25) rfl rfl ?_
  refine g_iadd hC (dX6_leastChoice_26) ?_
  obtain ⟨q2, h⟩ := wpO_g h
  refine g_iaload (n := 1792) hC (dX6_leastChoice_27) rfl q2 ?_
  refine g_iload (i := 4) (x := x4_12) hC (dX6_leastChoice_28) rfl ?_
  refine g_icmp_ne (tgt := 35) hC (dX6_leastChoice_30) (by decide) (fun c30 => ?_) (fun c30 => ?_)
  · have h := wpO_f c30 h
    refine g_iconst (v := 0) hC (dX6_leastChoice_35) kc_0 ?_
    refine g_istore (i := 5) (lv2 := [(5, .int 0), (4, .int x4_12), (0, .ref 26), (1, .int x1), (2, .int x2), (3, .int x3)]) hC (dX6_leastChoice_36) (by decide) rfl ?_
    refine g_sub (lv' := [(0, .ref 26), (1, .int x1), (2, .int x2), (3, .int x3), (4, .int x4_12), (5, .int 0)]) [2, 3, 4, 5, 1, 0] rfl ?_
    refine wpO_bJ h (fun KL38 hKL38 h => ?_)
    refine lX6_leastChoice_38 (K1 := KL38) hC hr (by omega) x1 x2 x3 x4_12 M (fun r h => ?_) (fun _ h => ?_) _ _ h
    · have h := wpO_i (hKL38 _ h)
      exact ⟨rfl, wpO_s h⟩
    · have h := wpO_r (hKL38 _ h)
      refine g_iconst (v := (-1)) hC (dX6_leastChoice_80) kc_m1 ?_
      refine g_ireturn hC hr (dX6_leastChoice_81) ?_
      exact ⟨rfl, wpO_s h⟩
  · have h := wpO_t c30 h
    refine g_iconst (v := (-1)) hC (dX6_leastChoice_33) kc_m1 ?_
    refine g_ireturn hC hr (dX6_leastChoice_34) ?_
    exact ⟨rfl, wpO_s h⟩
/-! LostByState$Text.isEmpty()Z -/
theorem dX9_isEmpty_0 : decode cX9_isEmpty 0 = .ok (.aload_n 0, 1) := by decide +kernel
theorem dX9_isEmpty_1 : decode cX9_isEmpty 1 = .ok (.getfield 15, 3) := by decide +kernel
theorem dX9_isEmpty_4 : decode cX9_isEmpty 4 = .ok (.ifCond .ne 7, 3) := by decide +kernel
theorem dX9_isEmpty_7 : decode cX9_isEmpty 7 = .ok (.iconst 1, 1) := by decide +kernel
theorem dX9_isEmpty_8 : decode cX9_isEmpty 8 = .ok (.goto 4, 3) := by decide +kernel
theorem dX9_isEmpty_11 : decode cX9_isEmpty 11 = .ok (.iconst 0, 1) := by decide +kernel
theorem dX9_isEmpty_12 : decode cX9_isEmpty 12 = .ok (.ireturn, 1) := by decide +kernel
def fX9_isEmpty  (M : zM) : Int32 := if (M.1 1 1) = 0 then (
  1)
  else (
  0)
theorem bX9_isEmpty  (M : zM) : fX9_isEmpty  M = 0 ∨ fX9_isEmpty  M = 1 := by
  unfold fX9_isEmpty
  try simp only [zlet, zp, zj]
  repeat' split
  all_goals first | exact Or.inl rfl | exact Or.inr rfl | (simp; done)
set_option maxHeartbeats 4000000 in
theorem cX9_isEmpty_ok {E : zE} {d : Nat} (hd : 0 ≤ d)  (M : zM) {K : Int32 → Prop} (h : wpI (fX9_isEmpty  M) K) : CMi E d yX9_isEmpty cX9_isEmpty 1 (some .boolean) [.ref 1] M (fun r N => M = N ∧ K r) := by
  refine CMi.of (by decide) (Nat.le_of_ble_eq_true rfl) (fun Γ hC hr => ?_)
  have hC : Cx E Γ RX9 cX9_isEmpty 1 d := hC
  show G E Γ 1 0 [(0, .ref 1)] [] M
  unfold fX9_isEmpty at h
  refine g_aload_n (i := 0) (x := 1) hC (dX9_isEmpty_0) rfl rfl ?_
  refine g_getI hC flX9_15 (dX9_isEmpty_1) rfl rfl ?_
  refine g_if_ne (tgt := 11) hC (dX9_isEmpty_4) (by decide) (fun c4 => ?_) (fun c4 => ?_)
  · have h := wpI_f c4 h
    refine g_iconst (v := 0) hC (dX9_isEmpty_11) kc_0 ?_
    refine g_zreturn hC hr (dX9_isEmpty_12) (Or.inl rfl) ?_
    exact ⟨rfl, wpI_s h⟩
  · have h := wpI_t c4 h
    refine g_iconst (v := 1) hC (dX9_isEmpty_7) kc_1 ?_
    refine g_goto (tgt := 12) hC (dX9_isEmpty_8) (by decide) ?_
    refine g_zreturn hC hr (dX9_isEmpty_12) (Or.inr rfl) ?_
    exact ⟨rfl, wpI_s h⟩
/-! LostByState$Stock.readThings(LLostByState$Text;)I -/
theorem dX7_readThings_0 : decode cX7_readThings 0 = .ok (.aload_n 1, 1) := by decide +kernel
theorem dX7_readThings_1 : decode cX7_readThings 1 = .ok (.getfield 28, 3) := by decide +kernel
theorem dX7_readThings_4 : decode cX7_readThings 4 = .ok (.bipush 79, 2) := by decide +kernel
theorem dX7_readThings_6 : decode cX7_readThings 6 = .ok (.invokestatic 33, 3) := by decide +kernel
theorem dX7_readThings_9 : decode cX7_readThings 9 = .ok (.istore_n 2, 1) := by decide +kernel
theorem dX7_readThings_10 : decode cX7_readThings 10 = .ok (.aload_n 0, 1) := by decide +kernel
theorem dX7_readThings_11 : decode cX7_readThings 11 = .ok (.getfield 21, 3) := by decide +kernel
theorem dX7_readThings_14 : decode cX7_readThings 14 = .ok (.iconst 1, 1) := by decide +kernel
theorem dX7_readThings_15 : decode cX7_readThings 15 = .ok (.isub, 1) := by decide +kernel
theorem dX7_readThings_16 : decode cX7_readThings 16 = .ok (.istore_n 3, 1) := by decide +kernel
theorem dX7_readThings_17 : decode cX7_readThings 17 = .ok (.iconst 1, 1) := by decide +kernel
theorem dX7_readThings_18 : decode cX7_readThings 18 = .ok (.istore 4, 2) := by decide +kernel
theorem dX7_readThings_20 : decode cX7_readThings 20 = .ok (.iconst (-1), 1) := by decide +kernel
theorem dX7_readThings_21 : decode cX7_readThings 21 = .ok (.istore 5, 2) := by decide +kernel
theorem dX7_readThings_23 : decode cX7_readThings 23 = .ok (.iconst 0, 1) := by decide +kernel
theorem dX7_readThings_24 : decode cX7_readThings 24 = .ok (.istore 6, 2) := by decide +kernel
theorem dX7_readThings_26 : decode cX7_readThings 26 = .ok (.iload 6, 2) := by decide +kernel
theorem dX7_readThings_28 : decode cX7_readThings 28 = .ok (.iload_n 2, 1) := by decide +kernel
theorem dX7_readThings_29 : decode cX7_readThings 29 = .ok (.if_icmp .ge 141, 3) := by decide +kernel
theorem dX7_readThings_32 : decode cX7_readThings 32 = .ok (.aload_n 1, 1) := by decide +kernel
theorem dX7_readThings_33 : decode cX7_readThings 33 = .ok (.iload 6, 2) := by decide +kernel
theorem dX7_readThings_35 : decode cX7_readThings 35 = .ok (.invokevirtual 39, 3) := by decide +kernel
theorem dX7_readThings_38 : decode cX7_readThings 38 = .ok (.istore 7, 2) := by decide +kernel
theorem dX7_readThings_40 : decode cX7_readThings 40 = .ok (.iload 4, 2) := by decide +kernel
theorem dX7_readThings_42 : decode cX7_readThings 42 = .ok (.ifCond .eq 58, 3) := by decide +kernel
theorem dX7_readThings_45 : decode cX7_readThings 45 = .ok (.iinc 3 1, 3) := by decide +kernel
theorem dX7_readThings_48 : decode cX7_readThings 48 = .ok (.iload_n 3, 1) := by decide +kernel
theorem dX7_readThings_49 : decode cX7_readThings 49 = .ok (.bipush 8, 2) := by decide +kernel
theorem dX7_readThings_51 : decode cX7_readThings 51 = .ok (.if_icmp .ge 17, 3) := by decide +kernel
theorem dX7_readThings_54 : decode cX7_readThings 54 = .ok (.iload 7, 2) := by decide +kernel
theorem dX7_readThings_56 : decode cX7_readThings 56 = .ok (.bipush 49, 2) := by decide +kernel
theorem dX7_readThings_58 : decode cX7_readThings 58 = .ok (.if_icmp .lt 10, 3) := by decide +kernel
theorem dX7_readThings_61 : decode cX7_readThings 61 = .ok (.iload 7, 2) := by decide +kernel
theorem dX7_readThings_63 : decode cX7_readThings 63 = .ok (.bipush 57, 2) := by decide +kernel
theorem dX7_readThings_65 : decode cX7_readThings 65 = .ok (.if_icmp .le 8, 3) := by decide +kernel
theorem dX7_readThings_68 : decode cX7_readThings 68 = .ok (.iconst (-1), 1) := by decide +kernel
theorem dX7_readThings_69 : decode cX7_readThings 69 = .ok (.iload 6, 2) := by decide +kernel
theorem dX7_readThings_71 : decode cX7_readThings 71 = .ok (.isub, 1) := by decide +kernel
theorem dX7_readThings_72 : decode cX7_readThings 72 = .ok (.ireturn, 1) := by decide +kernel
theorem dX7_readThings_73 : decode cX7_readThings 73 = .ok (.aload_n 0, 1) := by decide +kernel
theorem dX7_readThings_74 : decode cX7_readThings 74 = .ok (.getfield 15, 3) := by decide +kernel
theorem dX7_readThings_77 : decode cX7_readThings 77 = .ok (.iload_n 3, 1) := by decide +kernel
theorem dX7_readThings_78 : decode cX7_readThings 78 = .ok (.iload 7, 2) := by decide +kernel
theorem dX7_readThings_80 : decode cX7_readThings 80 = .ok (.bipush 48, 2) := by decide +kernel
theorem dX7_readThings_82 : decode cX7_readThings 82 = .ok (.isub, 1) := by decide +kernel
theorem dX7_readThings_83 : decode cX7_readThings 83 = .ok (.iastore, 1) := by decide +kernel
theorem dX7_readThings_84 : decode cX7_readThings 84 = .ok (.aload_n 0, 1) := by decide +kernel
theorem dX7_readThings_85 : decode cX7_readThings 85 = .ok (.getfield 9, 3) := by decide +kernel
theorem dX7_readThings_88 : decode cX7_readThings 88 = .ok (.iload_n 3, 1) := by decide +kernel
theorem dX7_readThings_89 : decode cX7_readThings 89 = .ok (.iconst 0, 1) := by decide +kernel
theorem dX7_readThings_90 : decode cX7_readThings 90 = .ok (.iastore, 1) := by decide +kernel
theorem dX7_readThings_91 : decode cX7_readThings 91 = .ok (.iconst (-1), 1) := by decide +kernel
theorem dX7_readThings_92 : decode cX7_readThings 92 = .ok (.istore 5, 2) := by decide +kernel
theorem dX7_readThings_94 : decode cX7_readThings 94 = .ok (.iconst 0, 1) := by decide +kernel
theorem dX7_readThings_95 : decode cX7_readThings 95 = .ok (.istore 4, 2) := by decide +kernel
theorem dX7_readThings_97 : decode cX7_readThings 97 = .ok (.goto 67, 3) := by decide +kernel
theorem dX7_readThings_100 : decode cX7_readThings 100 = .ok (.iload 7, 2) := by decide +kernel
theorem dX7_readThings_102 : decode cX7_readThings 102 = .ok (.bipush 59, 2) := by decide +kernel
theorem dX7_readThings_104 : decode cX7_readThings 104 = .ok (.if_icmp .ne 9, 3) := by decide +kernel
theorem dX7_readThings_107 : decode cX7_readThings 107 = .ok (.iconst 1, 1) := by decide +kernel
theorem dX7_readThings_108 : decode cX7_readThings 108 = .ok (.istore 4, 2) := by decide +kernel
theorem dX7_readThings_110 : decode cX7_readThings 110 = .ok (.goto 54, 3) := by decide +kernel
theorem dX7_readThings_113 : decode cX7_readThings 113 = .ok (.iload 7, 2) := by decide +kernel
theorem dX7_readThings_115 : decode cX7_readThings 115 = .ok (.bipush 97, 2) := by decide +kernel
theorem dX7_readThings_117 : decode cX7_readThings 117 = .ok (.isub, 1) := by decide +kernel
theorem dX7_readThings_118 : decode cX7_readThings 118 = .ok (.iload 5, 2) := by decide +kernel
theorem dX7_readThings_120 : decode cX7_readThings 120 = .ok (.if_icmp .le 39, 3) := by decide +kernel
theorem dX7_readThings_123 : decode cX7_readThings 123 = .ok (.iload 7, 2) := by decide +kernel
theorem dX7_readThings_125 : decode cX7_readThings 125 = .ok (.bipush 104, 2) := by decide +kernel
theorem dX7_readThings_127 : decode cX7_readThings 127 = .ok (.if_icmp .gt 32, 3) := by decide +kernel
theorem dX7_readThings_130 : decode cX7_readThings 130 = .ok (.iload_n 3, 1) := by decide +kernel
theorem dX7_readThings_131 : decode cX7_readThings 131 = .ok (.bipush 8, 2) := by decide +kernel
theorem dX7_readThings_133 : decode cX7_readThings 133 = .ok (.if_icmp .ge 26, 3) := by decide +kernel
theorem dX7_readThings_136 : decode cX7_readThings 136 = .ok (.iload 7, 2) := by decide +kernel
theorem dX7_readThings_138 : decode cX7_readThings 138 = .ok (.bipush 97, 2) := by decide +kernel
theorem dX7_readThings_140 : decode cX7_readThings 140 = .ok (.isub, 1) := by decide +kernel
theorem dX7_readThings_141 : decode cX7_readThings 141 = .ok (.istore 5, 2) := by decide +kernel
theorem dX7_readThings_143 : decode cX7_readThings 143 = .ok (.aload_n 0, 1) := by decide +kernel
theorem dX7_readThings_144 : decode cX7_readThings 144 = .ok (.getfield 9, 3) := by decide +kernel
theorem dX7_readThings_147 : decode cX7_readThings 147 = .ok (.iload_n 3, 1) := by decide +kernel
theorem dX7_readThings_148 : decode cX7_readThings 148 = .ok (.dup2, 1) := by decide +kernel
theorem dX7_readThings_149 : decode cX7_readThings 149 = .ok (.iaload, 1) := by decide +kernel
theorem dX7_readThings_150 : decode cX7_readThings 150 = .ok (.iconst 1, 1) := by decide +kernel
theorem dX7_readThings_151 : decode cX7_readThings 151 = .ok (.iload 5, 2) := by decide +kernel
theorem dX7_readThings_153 : decode cX7_readThings 153 = .ok (.ishl, 1) := by decide +kernel
theorem dX7_readThings_154 : decode cX7_readThings 154 = .ok (.ior, 1) := by decide +kernel
theorem dX7_readThings_155 : decode cX7_readThings 155 = .ok (.iastore, 1) := by decide +kernel
theorem dX7_readThings_156 : decode cX7_readThings 156 = .ok (.goto 8, 3) := by decide +kernel
theorem dX7_readThings_159 : decode cX7_readThings 159 = .ok (.iconst (-1), 1) := by decide +kernel
theorem dX7_readThings_160 : decode cX7_readThings 160 = .ok (.iload 6, 2) := by decide +kernel
theorem dX7_readThings_162 : decode cX7_readThings 162 = .ok (.isub, 1) := by decide +kernel
theorem dX7_readThings_163 : decode cX7_readThings 163 = .ok (.ireturn, 1) := by decide +kernel
theorem dX7_readThings_164 : decode cX7_readThings 164 = .ok (.iinc 6 1, 3) := by decide +kernel
theorem dX7_readThings_167 : decode cX7_readThings 167 = .ok (.goto (-141), 3) := by decide +kernel
theorem dX7_readThings_170 : decode cX7_readThings 170 = .ok (.aload_n 1, 1) := by decide +kernel
theorem dX7_readThings_171 : decode cX7_readThings 171 = .ok (.invokevirtual 43, 3) := by decide +kernel
theorem dX7_readThings_174 : decode cX7_readThings 174 = .ok (.ifCond .eq 5, 3) := by decide +kernel
theorem dX7_readThings_177 : decode cX7_readThings 177 = .ok (.iconst 0, 1) := by decide +kernel
theorem dX7_readThings_178 : decode cX7_readThings 178 = .ok (.ireturn, 1) := by decide +kernel
theorem dX7_readThings_179 : decode cX7_readThings 179 = .ok (.iload 4, 2) := by decide +kernel
theorem dX7_readThings_181 : decode cX7_readThings 181 = .ok (.ifCond .ne 11, 3) := by decide +kernel
theorem dX7_readThings_184 : decode cX7_readThings 184 = .ok (.iload_n 2, 1) := by decide +kernel
theorem dX7_readThings_185 : decode cX7_readThings 185 = .ok (.aload_n 1, 1) := by decide +kernel
theorem dX7_readThings_186 : decode cX7_readThings 186 = .ok (.getfield 28, 3) := by decide +kernel
theorem dX7_readThings_189 : decode cX7_readThings 189 = .ok (.if_icmp .ge 9, 3) := by decide +kernel
theorem dX7_readThings_192 : decode cX7_readThings 192 = .ok (.iconst (-1), 1) := by decide +kernel
theorem dX7_readThings_193 : decode cX7_readThings 193 = .ok (.iload_n 2, 1) := by decide +kernel
theorem dX7_readThings_194 : decode cX7_readThings 194 = .ok (.isub, 1) := by decide +kernel
theorem dX7_readThings_195 : decode cX7_readThings 195 = .ok (.goto 11, 3) := by decide +kernel
theorem dX7_readThings_198 : decode cX7_readThings 198 = .ok (.iload_n 3, 1) := by decide +kernel
theorem dX7_readThings_199 : decode cX7_readThings 199 = .ok (.aload_n 0, 1) := by decide +kernel
theorem dX7_readThings_200 : decode cX7_readThings 200 = .ok (.getfield 21, 3) := by decide +kernel
theorem dX7_readThings_203 : decode cX7_readThings 203 = .ok (.isub, 1) := by decide +kernel
theorem dX7_readThings_204 : decode cX7_readThings 204 = .ok (.iconst 1, 1) := by decide +kernel
theorem dX7_readThings_205 : decode cX7_readThings 205 = .ok (.iadd, 1) := by decide +kernel
theorem dX7_readThings_206 : decode cX7_readThings 206 = .ok (.ireturn, 1) := by decide +kernel
def fX7_readThings_L26 (x2 : Int32) : Nat → Int32 → Int32 → Int32 → Int32 → zM → Option ((Int32 × zM) ⊕ (Int32 × Int32 × zM))
  | 0, _, _, _, _, _ => none
  | n + 1, x3, x4, x5, x6, M => if x2 ≤ x6 then (
    some (.inr (x3, x4, M)))
    else (
    (fX9_signAt x6 M).bind fun (r1 : Int32) =>
    zj (fun (q : Int32 × Int32 × Int32 × zM) => zp q fun x3_164 q => zp q fun x4_164 q => zp q fun x5_164 M_164 =>
    fX7_readThings_L26 x2 n x3_164 x4_164 x5_164 (x6 + 1) M_164)
    fun J2 =>
    if x4 = 0 then (
    if r1 = 59 then (
    J2 (x3, 1, x5, M))
    else (
    if (r1 - 97) ≤ x5 then (
    some (.inl ((-1) - x6, M)))
    else (
    if 104 < r1 then (
    some (.inl ((-1) - x6, M)))
    else (
    if 8 ≤ x3 then (
    some (.inl ((-1) - x6, M)))
    else (
    zlet (r1 - 97) fun (x5_141 : Int32) =>
    if zin x3 8 then (
    zlet (zSI M 6 x3.toNatClampNeg ((M.1 6 x3.toNatClampNeg) ||| (zshl 1 x5_141))) fun (M155 : zM) =>
    J2 (x3, x4, x5_141, M155)) else none)))))
    else (
    if 8 ≤ (x3 + 1) then (
    some (.inl ((-1) - x6, M)))
    else (
    if r1 < 49 then (
    some (.inl ((-1) - x6, M)))
    else (
    if r1 ≤ 57 then (
    if zin (x3 + 1) 8 then (
    zlet (zSI M 7 (x3 + 1).toNatClampNeg (r1 - 48)) fun (M83 : zM) =>
    zlet (zSI M83 6 (x3 + 1).toNatClampNeg 0) fun (M90 : zM) =>
    J2 (x3 + 1, 0, (-1), M90)) else none)
    else (
    some (.inl ((-1) - x6, M)))))))
def fX7_readThings  (M : zM) : Option (Int32 × zM) := zlet (zmin (M.1 1 1) 79) fun (x2_9 : Int32) =>
  zlet ((M.1 5 3) - 1) fun (x3_16 : Int32) =>
  (fX7_readThings_L26 x2_9 4000 x3_16 1 (-1) 0 M).bind fun q => zs q (fun r => some r)
  (fun (q : Int32 × Int32 × zM) => zp q fun x3_170 q => zp q fun x4_170 M_170 =>
  if (fX9_isEmpty M_170) = 0 then (
  zj (fun (_ : Unit) =>
  some ((-1) - x2_9, M_170))
  fun J6 =>
  if x4_170 = 0 then (
  if (M_170.1 1 1) ≤ x2_9 then (
  some ((x3_170 - (M_170.1 5 3)) + 1, M_170))
  else (
  J6 ()))
  else (
  J6 ()))
  else (
  some (0, M_170)))
set_option maxHeartbeats 4000000 in
theorem lX7_readThings_26 {E : zE} {Γ : zT} {d : Nat} {K1 : ((Int32 × zM) ⊕ (Int32 × Int32 × zM)) → Prop} (hC : Cx E Γ RX7 cX7_readThings 8 d) {post : Int32 → zM → Prop} (hr : zRi E Γ (some .int) post) (hd : 1 ≤ d) (x2 : Int32) (hret : ∀ (r : Int32) (N : zM), K1 (.inl (r, N)) → post r N) (hx : ∀ (x3_170 : Int32) (x4_170 : Int32) (M_170 : zM), K1 (.inr (x3_170, x4_170, M_170)) → G E Γ 8 170 [(0, .ref 5), (1, .ref 1), (2, .int x2), (3, .int x3_170), (4, .int x4_170)] [] M_170) :
    ∀ (n : Nat) (x3 : Int32) (x4 : Int32) (x5 : Int32) (x6 : Int32) (M : zM), wpO (fX7_readThings_L26 x2 n x3 x4 x5 x6 M) K1 → G E Γ 8 26 [(0, .ref 5), (1, .ref 1), (2, .int x2), (3, .int x3), (4, .int x4), (5, .int x5), (6, .int x6)] [] M := by
  intro n
  induction n with
  | zero =>
    intro x3 x4 x5 x6 M h
    exact (wpO_0 h).elim
  | succ n ih =>
    intro x3 x4 x5 x6 M h
    rw [fX7_readThings_L26.eq_2] at h
    refine g_iload (i := 6) (x := x6) hC (dX7_readThings_26) rfl ?_
    refine g_iload_n (i := 2) (x := x2) hC (dX7_readThings_28) rfl rfl ?_
    refine g_icmp_ge (tgt := 170) hC (dX7_readThings_29) (by decide) (fun c29 => ?_) (fun c29 => ?_)
    · have h := wpO_t c29 h
      refine g_sub (lv' := [(0, .ref 5), (1, .ref 1), (2, .int x2), (3, .int x3), (4, .int x4)]) [0, 1, 2, 3, 4] rfl ?_
      exact hx _ _ _ (wpO_s h)
    · have h := wpO_f c29 h
      refine g_aload_n (i := 1) (x := 1) hC (dX7_readThings_32) rfl rfl ?_
      refine g_iload (i := 6) (x := x6) hC (dX7_readThings_33) rfl ?_
      have h := wpO_b h
      refine g_callVi ([.int x6]) hC wvX7_39 (dX7_readThings_35) rfl rfl (by omega) (Nat.le_of_ble_eq_true rfl) (cX9_signAt_ok (by omega) x6 M h) (fun r1 N q => ?_)
      obtain ⟨rfl, h⟩ := q
      refine g_istore (i := 7) (lv2 := [(7, .int r1), (0, .ref 5), (1, .ref 1), (2, .int x2), (3, .int x3), (4, .int x4), (5, .int x5), (6, .int x6)]) hC (dX7_readThings_38) (by decide) rfl ?_
      refine g_iload (i := 4) (x := x4) hC (dX7_readThings_40) rfl ?_
      refine wpO_j h (fun J2 hkJ2 h => ?_)
      have hJ2 : ∀ (x3_164 : Int32) (x4_164 : Int32) (x5_164 : Int32) (M_164 : zM), wpO (J2 (x3_164, x4_164, x5_164, M_164)) K1 → G E Γ 8 164 [(0, .ref 5), (1, .ref 1), (2, .int x2), (3, .int x3_164), (4, .int x4_164), (5, .int x5_164), (6, .int x6)] [] M_164 := by
        intro x3_164 x4_164 x5_164 M_164 h
        have h := hkJ2 _ h
        have h := wpO_p h
        have h := wpO_p h
        have h := wpO_p h
        refine g_iinc (x := x6) (v := (x6 + 1)) (lv2 := [(6, .int (x6 + 1)), (0, .ref 5), (1, .ref 1), (2, .int x2), (3, .int x3_164), (4, .int x4_164), (5, .int x5_164)]) hC (dX7_readThings_164) rfl rfl (by decide) rfl ?_
        refine g_goto (tgt := 26) hC (dX7_readThings_167) (by decide) ?_
        refine g_sub (lv' := [(0, .ref 5), (1, .ref 1), (2, .int x2), (3, .int x3_164), (4, .int x4_164), (5, .int x5_164), (6, .int (x6 + 1))]) [1, 2, 3, 4, 5, 6, 0] rfl ?_
        exact ih _ _ _ _ _ h
      refine g_if_eq (tgt := 100) hC (dX7_readThings_42) (by decide) (fun c42 => ?_) (fun c42 => ?_)
      · have h := wpO_t c42 h
        refine g_iload (i := 7) (x := r1) hC (dX7_readThings_100) rfl ?_
        refine g_bipush (v := 59) hC (dX7_readThings_102) kb_59 ?_
        refine g_icmp_ne (tgt := 113) hC (dX7_readThings_104) (by decide) (fun c104 => ?_) (fun c104 => ?_)
        · have h := wpO_f c104 h
          refine g_iload (i := 7) (x := r1) hC (dX7_readThings_113) rfl ?_
          refine g_bipush (v := 97) hC (dX7_readThings_115) kb_97 ?_
          refine g_isub hC (dX7_readThings_117) ?_
          refine g_iload (i := 5) (x := x5) hC (dX7_readThings_118) rfl ?_
          refine g_icmp_le (tgt := 159) hC (dX7_readThings_120) (by decide) (fun c120 => ?_) (fun c120 => ?_)
          · have h := wpO_t c120 h
            refine g_iconst (v := (-1)) hC (dX7_readThings_159) kc_m1 ?_
            refine g_iload (i := 6) (x := x6) hC (dX7_readThings_160) rfl ?_
            refine g_isub hC (dX7_readThings_162) ?_
            refine g_ireturn hC hr (dX7_readThings_163) ?_
            exact hret _ _ (wpO_s h)
          · have h := wpO_f c120 h
            refine g_iload (i := 7) (x := r1) hC (dX7_readThings_123) rfl ?_
            refine g_bipush (v := 104) hC (dX7_readThings_125) kb_104 ?_
            refine g_icmp_gt (tgt := 159) hC (dX7_readThings_127) (by decide) (fun c127 => ?_) (fun c127 => ?_)
            · have h := wpO_t c127 h
              refine g_iconst (v := (-1)) hC (dX7_readThings_159) kc_m1 ?_
              refine g_iload (i := 6) (x := x6) hC (dX7_readThings_160) rfl ?_
              refine g_isub hC (dX7_readThings_162) ?_
              refine g_ireturn hC hr (dX7_readThings_163) ?_
              exact hret _ _ (wpO_s h)
            · have h := wpO_f c127 h
              refine g_iload_n (i := 3) (x := x3) hC (dX7_readThings_130) rfl rfl ?_
              refine g_bipush (v := 8) hC (dX7_readThings_131) kb_8 ?_
              refine g_icmp_ge (tgt := 159) hC (dX7_readThings_133) (by decide) (fun c133 => ?_) (fun c133 => ?_)
              · have h := wpO_t c133 h
                refine g_iconst (v := (-1)) hC (dX7_readThings_159) kc_m1 ?_
                refine g_iload (i := 6) (x := x6) hC (dX7_readThings_160) rfl ?_
                refine g_isub hC (dX7_readThings_162) ?_
                refine g_ireturn hC hr (dX7_readThings_163) ?_
                exact hret _ _ (wpO_s h)
              · have h := wpO_f c133 h
                refine g_iload (i := 7) (x := r1) hC (dX7_readThings_136) rfl ?_
                refine g_bipush (v := 97) hC (dX7_readThings_138) kb_97 ?_
                refine g_isub hC (dX7_readThings_140) ?_
                refine g_nmi (fun x5_141 e_x5_141 => ?_)
                have h := wpO_n e_x5_141 h
                refine g_istore (i := 5) (lv2 := [(5, .int x5_141), (7, .int r1), (0, .ref 5), (1, .ref 1), (2, .int x2), (3, .int x3), (4, .int x4), (6, .int x6)]) hC (dX7_readThings_141) (by decide) rfl ?_
                refine g_aload_n (i := 0) (x := 5) hC (dX7_readThings_143) rfl rfl ?_
                refine g_getR (r := 6) hC flX7_9 (dX7_readThings_144) rfl rfl rfl ?_
                refine g_iload_n (i := 3) (x := x3) hC (dX7_readThings_147) rfl rfl ?_
                refine g_dup2 hC (dX7_readThings_148) rfl rfl ?_
                obtain ⟨q3, h⟩ := wpO_g h
                refine g_iaload (n := 8) hC (dX7_readThings_149) rfl q3 ?_
                refine g_iconst (v := 1) hC (dX7_readThings_150) kc_1 ?_
                refine g_iload (i := 5) (x := x5_141) hC (dX7_readThings_151) rfl ?_
                refine g_ishl hC (dX7_readThings_153) ?_
                refine g_ior hC (dX7_readThings_154) ?_
                refine g_iastore (n := 8) hC (dX7_readThings_155) rfl q3 ?_
                refine g_nmM (fun M155 e_M155 => ?_)
                have h := wpO_n e_M155 h
                refine g_goto (tgt := 164) hC (dX7_readThings_156) (by decide) ?_
                refine g_sub (lv' := [(0, .ref 5), (1, .ref 1), (2, .int x2), (3, .int x3), (4, .int x4), (5, .int x5_141), (6, .int x6)]) [2, 3, 4, 5, 6, 0, 7] rfl ?_
                exact hJ2 _ _ _ _ h
        · have h := wpO_t c104 h
          refine g_iconst (v := 1) hC (dX7_readThings_107) kc_1 ?_
          refine g_istore (i := 4) (lv2 := [(4, .int 1), (7, .int r1), (0, .ref 5), (1, .ref 1), (2, .int x2), (3, .int x3), (5, .int x5), (6, .int x6)]) hC (dX7_readThings_108) (by decide) rfl ?_
          refine g_goto (tgt := 164) hC (dX7_readThings_110) (by decide) ?_
          refine g_sub (lv' := [(0, .ref 5), (1, .ref 1), (2, .int x2), (3, .int x3), (4, .int 1), (5, .int x5), (6, .int x6)]) [2, 3, 4, 5, 0, 6, 7] rfl ?_
          exact hJ2 _ _ _ _ h
      · have h := wpO_f c42 h
        refine g_iinc (x := x3) (v := (x3 + 1)) (lv2 := [(3, .int (x3 + 1)), (7, .int r1), (0, .ref 5), (1, .ref 1), (2, .int x2), (4, .int x4), (5, .int x5), (6, .int x6)]) hC (dX7_readThings_45) rfl rfl (by decide) rfl ?_
        refine g_iload_n (i := 3) (x := (x3 + 1)) hC (dX7_readThings_48) rfl rfl ?_
        refine g_bipush (v := 8) hC (dX7_readThings_49) kb_8 ?_
        refine g_icmp_ge (tgt := 68) hC (dX7_readThings_51) (by decide) (fun c51 => ?_) (fun c51 => ?_)
        · have h := wpO_t c51 h
          refine g_iconst (v := (-1)) hC (dX7_readThings_68) kc_m1 ?_
          refine g_iload (i := 6) (x := x6) hC (dX7_readThings_69) rfl ?_
          refine g_isub hC (dX7_readThings_71) ?_
          refine g_ireturn hC hr (dX7_readThings_72) ?_
          exact hret _ _ (wpO_s h)
        · have h := wpO_f c51 h
          refine g_iload (i := 7) (x := r1) hC (dX7_readThings_54) rfl ?_
          refine g_bipush (v := 49) hC (dX7_readThings_56) kb_49 ?_
          refine g_icmp_lt (tgt := 68) hC (dX7_readThings_58) (by decide) (fun c58 => ?_) (fun c58 => ?_)
          · have h := wpO_t c58 h
            refine g_iconst (v := (-1)) hC (dX7_readThings_68) kc_m1 ?_
            refine g_iload (i := 6) (x := x6) hC (dX7_readThings_69) rfl ?_
            refine g_isub hC (dX7_readThings_71) ?_
            refine g_ireturn hC hr (dX7_readThings_72) ?_
            exact hret _ _ (wpO_s h)
          · have h := wpO_f c58 h
            refine g_iload (i := 7) (x := r1) hC (dX7_readThings_61) rfl ?_
            refine g_bipush (v := 57) hC (dX7_readThings_63) kb_57 ?_
            refine g_icmp_le (tgt := 73) hC (dX7_readThings_65) (by decide) (fun c65 => ?_) (fun c65 => ?_)
            · have h := wpO_t c65 h
              refine g_aload_n (i := 0) (x := 5) hC (dX7_readThings_73) rfl rfl ?_
              refine g_getR (r := 7) hC flX7_15 (dX7_readThings_74) rfl rfl rfl ?_
              refine g_iload_n (i := 3) (x := (x3 + 1)) hC (dX7_readThings_77) rfl rfl ?_
              refine g_iload (i := 7) (x := r1) hC (dX7_readThings_78) rfl ?_
              refine g_bipush (v := 48) hC (dX7_readThings_80) kb_48 ?_
              refine g_isub hC (dX7_readThings_82) ?_
              obtain ⟨q4, h⟩ := wpO_g h
              refine g_iastore (n := 8) hC (dX7_readThings_83) rfl q4 ?_
              refine g_nmM (fun M83 e_M83 => ?_)
              have h := wpO_n e_M83 h
              refine g_aload_n (i := 0) (x := 5) hC (dX7_readThings_84) rfl rfl ?_
              refine g_getR (r := 6) hC flX7_9 (dX7_readThings_85) rfl rfl rfl ?_
              refine g_iload_n (i := 3) (x := (x3 + 1)) hC (dX7_readThings_88) rfl rfl ?_
              refine g_iconst (v := 0) hC (dX7_readThings_89) kc_0 ?_
              refine g_iastore (n := 8) hC (dX7_readThings_90) rfl q4 ?_
              refine g_nmM (fun M90 e_M90 => ?_)
              have h := wpO_n e_M90 h
              refine g_iconst (v := (-1)) hC (dX7_readThings_91) kc_m1 ?_
              refine g_istore (i := 5) (lv2 := [(5, .int (-1)), (3, .int (x3 + 1)), (7, .int r1), (0, .ref 5), (1, .ref 1), (2, .int x2), (4, .int x4), (6, .int x6)]) hC (dX7_readThings_92) (by decide) rfl ?_
              refine g_iconst (v := 0) hC (dX7_readThings_94) kc_0 ?_
              refine g_istore (i := 4) (lv2 := [(4, .int 0), (5, .int (-1)), (3, .int (x3 + 1)), (7, .int r1), (0, .ref 5), (1, .ref 1), (2, .int x2), (6, .int x6)]) hC (dX7_readThings_95) (by decide) rfl ?_
              refine g_goto (tgt := 164) hC (dX7_readThings_97) (by decide) ?_
              refine g_sub (lv' := [(0, .ref 5), (1, .ref 1), (2, .int x2), (3, .int (x3 + 1)), (4, .int 0), (5, .int (-1)), (6, .int x6)]) [4, 5, 6, 2, 0, 1, 7] rfl ?_
              exact hJ2 _ _ _ _ h
            · have h := wpO_f c65 h
              refine g_iconst (v := (-1)) hC (dX7_readThings_68) kc_m1 ?_
              refine g_iload (i := 6) (x := x6) hC (dX7_readThings_69) rfl ?_
              refine g_isub hC (dX7_readThings_71) ?_
              refine g_ireturn hC hr (dX7_readThings_72) ?_
              exact hret _ _ (wpO_s h)
set_option maxHeartbeats 4000000 in
theorem cX7_readThings_ok {E : zE} {d : Nat} (hd : 1 ≤ d)  (M : zM) {K : (Int32 × zM) → Prop} (h : wpO (fX7_readThings  M) K) : CMi E d yX7_readThings cX7_readThings 8 (some .int) [.ref 5, .ref 1] M (fun r N => K (r, N)) := by
  refine CMi.of (by decide) (Nat.le_of_ble_eq_true rfl) (fun Γ hC hr => ?_)
  have hC : Cx E Γ RX7 cX7_readThings 8 d := hC
  show G E Γ 8 0 [(0, .ref 5), (1, .ref 1)] [] M
  unfold fX7_readThings at h
  refine g_aload_n (i := 1) (x := 1) hC (dX7_readThings_0) rfl rfl ?_
  refine g_getI hC flX7_28 (dX7_readThings_1) rfl rfl ?_
  refine g_bipush (v := 79) hC (dX7_readThings_4) kb_79 ?_
  refine g_min hC wmX7_33 (dX7_readThings_6) (by omega) (Nat.le_of_ble_eq_true rfl) ?_
  refine g_nmi (fun x2_9 e_x2_9 => ?_)
  have h := wpO_n e_x2_9 h
  refine g_istore_n (i := 2) (lv2 := [(2, .int x2_9), (0, .ref 5), (1, .ref 1)]) hC (dX7_readThings_9) rfl (by decide) rfl ?_
  refine g_aload_n (i := 0) (x := 5) hC (dX7_readThings_10) rfl rfl ?_
  refine g_getI hC flX7_21 (dX7_readThings_11) rfl rfl ?_
  refine g_iconst (v := 1) hC (dX7_readThings_14) kc_1 ?_
  refine g_isub hC (dX7_readThings_15) ?_
  refine g_nmi (fun x3_16 e_x3_16 => ?_)
  have h := wpO_n e_x3_16 h
  refine g_istore_n (i := 3) (lv2 := [(3, .int x3_16), (2, .int x2_9), (0, .ref 5), (1, .ref 1)]) hC (dX7_readThings_16) rfl (by decide) rfl ?_
  refine g_iconst (v := 1) hC (dX7_readThings_17) kc_1 ?_
  refine g_istore (i := 4) (lv2 := [(4, .int 1), (3, .int x3_16), (2, .int x2_9), (0, .ref 5), (1, .ref 1)]) hC (dX7_readThings_18) (by decide) rfl ?_
  refine g_iconst (v := (-1)) hC (dX7_readThings_20) kc_m1 ?_
  refine g_istore (i := 5) (lv2 := [(5, .int (-1)), (4, .int 1), (3, .int x3_16), (2, .int x2_9), (0, .ref 5), (1, .ref 1)]) hC (dX7_readThings_21) (by decide) rfl ?_
  refine g_iconst (v := 0) hC (dX7_readThings_23) kc_0 ?_
  refine g_istore (i := 6) (lv2 := [(6, .int 0), (5, .int (-1)), (4, .int 1), (3, .int x3_16), (2, .int x2_9), (0, .ref 5), (1, .ref 1)]) hC (dX7_readThings_24) (by decide) rfl ?_
  refine g_sub (lv' := [(0, .ref 5), (1, .ref 1), (2, .int x2_9), (3, .int x3_16), (4, .int 1), (5, .int (-1)), (6, .int 0)]) [5, 6, 4, 3, 2, 1, 0] rfl ?_
  refine wpO_bJ h (fun KL26 hKL26 h => ?_)
  refine lX7_readThings_26 (K1 := KL26) hC hr (by omega) x2_9 (fun r N h => ?_) (fun x3_170 x4_170 M_170 h => ?_) _ _ _ _ _ _ h
  · have h := wpO_i (hKL26 _ h)
    exact wpO_s h
  · have h := wpO_r (hKL26 _ h)
    have h := wpO_p h
    have h := wpO_p h
    refine g_aload_n (i := 1) (x := 1) hC (dX7_readThings_170) rfl rfl ?_
    refine g_callVi ([]) hC wvX7_43 (dX7_readThings_171) rfl rfl (by omega) (Nat.le_of_ble_eq_true rfl) (cX9_isEmpty_ok (by omega) M_170 (K := fun r => r = fX9_isEmpty M_170) rfl) (fun r N q => ?_)
    obtain ⟨rfl, rfl⟩ := q
    refine g_if_eq (tgt := 179) hC (dX7_readThings_174) (by decide) (fun c174 => ?_) (fun c174 => ?_)
    · have h := wpO_t c174 h
      refine g_iload (i := 4) (x := x4_170) hC (dX7_readThings_179) rfl ?_
      refine wpO_j h (fun J6 hkJ6 h => ?_)
      have hJ6 : ∀ (_ : Unit), wpO (J6 ()) K → G E Γ 8 192 [(2, .int x2_9)] [] M_170 := by
        intro _ h
        have h := hkJ6 _ h
        refine g_iconst (v := (-1)) hC (dX7_readThings_192) kc_m1 ?_
        refine g_iload_n (i := 2) (x := x2_9) hC (dX7_readThings_193) rfl rfl ?_
        refine g_isub hC (dX7_readThings_194) ?_
        refine g_goto (tgt := 206) hC (dX7_readThings_195) (by decide) ?_
        refine g_ireturn hC hr (dX7_readThings_206) ?_
        exact wpO_s h
      refine g_if_ne (tgt := 192) hC (dX7_readThings_181) (by decide) (fun c181 => ?_) (fun c181 => ?_)
      · have h := wpO_f c181 h
        refine g_sub (lv' := [(2, .int x2_9)]) [2] rfl ?_
        exact hJ6 () h
      · have h := wpO_t c181 h
        refine g_iload_n (i := 2) (x := x2_9) hC (dX7_readThings_184) rfl rfl ?_
        refine g_aload_n (i := 1) (x := 1) hC (dX7_readThings_185) rfl rfl ?_
        refine g_getI hC flX7_28 (dX7_readThings_186) rfl rfl ?_
        refine g_icmp_ge (tgt := 198) hC (dX7_readThings_189) (by decide) (fun c189 => ?_) (fun c189 => ?_)
        · have h := wpO_t c189 h
          refine g_iload_n (i := 3) (x := x3_170) hC (dX7_readThings_198) rfl rfl ?_
          refine g_aload_n (i := 0) (x := 5) hC (dX7_readThings_199) rfl rfl ?_
          refine g_getI hC flX7_21 (dX7_readThings_200) rfl rfl ?_
          refine g_isub hC (dX7_readThings_203) ?_
          refine g_iconst (v := 1) hC (dX7_readThings_204) kc_1 ?_
          refine g_iadd hC (dX7_readThings_205) ?_
          refine g_ireturn hC hr (dX7_readThings_206) ?_
          exact wpO_s h
        · have h := wpO_f c189 h
          refine g_sub (lv' := [(2, .int x2_9)]) [2] rfl ?_
          exact hJ6 () h
    · have h := wpO_f c174 h
      refine g_iconst (v := 0) hC (dX7_readThings_177) kc_0 ?_
      refine g_ireturn hC hr (dX7_readThings_178) ?_
      exact wpO_s h
/-! LostByState$Stock.deedsThatNeed(I)I -/
theorem dX7_deedsThatNeed_0 : decode cX7_deedsThatNeed 0 = .ok (.iconst 0, 1) := by decide +kernel
theorem dX7_deedsThatNeed_1 : decode cX7_deedsThatNeed 1 = .ok (.istore_n 2, 1) := by decide +kernel
theorem dX7_deedsThatNeed_2 : decode cX7_deedsThatNeed 2 = .ok (.iconst 0, 1) := by decide +kernel
theorem dX7_deedsThatNeed_3 : decode cX7_deedsThatNeed 3 = .ok (.istore_n 3, 1) := by decide +kernel
theorem dX7_deedsThatNeed_4 : decode cX7_deedsThatNeed 4 = .ok (.iload_n 3, 1) := by decide +kernel
theorem dX7_deedsThatNeed_5 : decode cX7_deedsThatNeed 5 = .ok (.aload_n 0, 1) := by decide +kernel
theorem dX7_deedsThatNeed_6 : decode cX7_deedsThatNeed 6 = .ok (.getfield 25, 3) := by decide +kernel
theorem dX7_deedsThatNeed_9 : decode cX7_deedsThatNeed 9 = .ok (.if_icmp .ge 24, 3) := by decide +kernel
theorem dX7_deedsThatNeed_12 : decode cX7_deedsThatNeed 12 = .ok (.iload_n 2, 1) := by decide +kernel
theorem dX7_deedsThatNeed_13 : decode cX7_deedsThatNeed 13 = .ok (.aload_n 0, 1) := by decide +kernel
theorem dX7_deedsThatNeed_14 : decode cX7_deedsThatNeed 14 = .ok (.getfield 18, 3) := by decide +kernel
theorem dX7_deedsThatNeed_17 : decode cX7_deedsThatNeed 17 = .ok (.iload_n 3, 1) := by decide +kernel
theorem dX7_deedsThatNeed_18 : decode cX7_deedsThatNeed 18 = .ok (.iaload, 1) := by decide +kernel
theorem dX7_deedsThatNeed_19 : decode cX7_deedsThatNeed 19 = .ok (.iload_n 1, 1) := by decide +kernel
theorem dX7_deedsThatNeed_20 : decode cX7_deedsThatNeed 20 = .ok (.ishr, 1) := by decide +kernel
theorem dX7_deedsThatNeed_21 : decode cX7_deedsThatNeed 21 = .ok (.iconst 1, 1) := by decide +kernel
theorem dX7_deedsThatNeed_22 : decode cX7_deedsThatNeed 22 = .ok (.iand, 1) := by decide +kernel
theorem dX7_deedsThatNeed_23 : decode cX7_deedsThatNeed 23 = .ok (.iload_n 3, 1) := by decide +kernel
theorem dX7_deedsThatNeed_24 : decode cX7_deedsThatNeed 24 = .ok (.ishl, 1) := by decide +kernel
theorem dX7_deedsThatNeed_25 : decode cX7_deedsThatNeed 25 = .ok (.ior, 1) := by decide +kernel
theorem dX7_deedsThatNeed_26 : decode cX7_deedsThatNeed 26 = .ok (.istore_n 2, 1) := by decide +kernel
theorem dX7_deedsThatNeed_27 : decode cX7_deedsThatNeed 27 = .ok (.iinc 3 1, 3) := by decide +kernel
theorem dX7_deedsThatNeed_30 : decode cX7_deedsThatNeed 30 = .ok (.goto (-26), 3) := by decide +kernel
theorem dX7_deedsThatNeed_33 : decode cX7_deedsThatNeed 33 = .ok (.iload_n 2, 1) := by decide +kernel
theorem dX7_deedsThatNeed_34 : decode cX7_deedsThatNeed 34 = .ok (.ireturn, 1) := by decide +kernel
def fX7_deedsThatNeed_L4 (x1 : Int32) (M : zM) : Nat → Int32 → Int32 → Option Int32
  | 0, _, _ => none
  | n + 1, x2, x3 => if (M.1 5 4) ≤ x3 then (
    some x2)
    else (
    if zin x3 6 then (
    zlet (x2 ||| (zshl ((zshr (M.1 8 x3.toNatClampNeg) x1) &&& 1) x3)) fun (x2_26 : Int32) =>
    fX7_deedsThatNeed_L4 x1 M n x2_26 (x3 + 1)) else none)
def fX7_deedsThatNeed (x1 : Int32) (M : zM) : Option Int32 := (fX7_deedsThatNeed_L4 x1 M 4000 0 0).bind fun (x2_33 : Int32) =>
  some x2_33
set_option maxHeartbeats 4000000 in
theorem lX7_deedsThatNeed_4 {E : zE} {Γ : zT} {d : Nat} {K1 : Int32 → Prop} (hC : Cx E Γ RX7 cX7_deedsThatNeed 4 d) (hd : 0 ≤ d) (x1 : Int32) (M : zM) (hx : ∀ (x2_33 : Int32), K1 x2_33 → G E Γ 4 33 [(2, .int x2_33)] [] M) :
    ∀ (n : Nat) (x2 : Int32) (x3 : Int32), wpO (fX7_deedsThatNeed_L4 x1 M n x2 x3) K1 → G E Γ 4 4 [(0, .ref 5), (1, .int x1), (2, .int x2), (3, .int x3)] [] M := by
  intro n
  induction n with
  | zero =>
    intro x2 x3 h
    exact (wpO_0 h).elim
  | succ n ih =>
    intro x2 x3 h
    rw [fX7_deedsThatNeed_L4.eq_2] at h
    refine g_iload_n (i := 3) (x := x3) hC (dX7_deedsThatNeed_4) rfl rfl ?_
    refine g_aload_n (i := 0) (x := 5) hC (dX7_deedsThatNeed_5) rfl rfl ?_
    refine g_getI hC flX7_25 (dX7_deedsThatNeed_6) rfl rfl ?_
    refine g_icmp_ge (tgt := 33) hC (dX7_deedsThatNeed_9) (by decide) (fun c9 => ?_) (fun c9 => ?_)
    · have h := wpO_t c9 h
      refine g_sub (lv' := [(2, .int x2)]) [2] rfl ?_
      exact hx _ (wpO_s h)
    · have h := wpO_f c9 h
      refine g_iload_n (i := 2) (x := x2) hC (dX7_deedsThatNeed_12) rfl rfl ?_
      refine g_aload_n (i := 0) (x := 5) hC (dX7_deedsThatNeed_13) rfl rfl ?_
      refine g_getR (r := 8) hC flX7_18 (dX7_deedsThatNeed_14) rfl rfl rfl ?_
      refine g_iload_n (i := 3) (x := x3) hC (dX7_deedsThatNeed_17) rfl rfl ?_
      obtain ⟨q1, h⟩ := wpO_g h
      refine g_iaload (n := 6) hC (dX7_deedsThatNeed_18) rfl q1 ?_
      refine g_iload_n (i := 1) (x := x1) hC (dX7_deedsThatNeed_19) rfl rfl ?_
      refine g_ishr hC (dX7_deedsThatNeed_20) ?_
      refine g_iconst (v := 1) hC (dX7_deedsThatNeed_21) kc_1 ?_
      refine g_iand hC (dX7_deedsThatNeed_22) ?_
      refine g_iload_n (i := 3) (x := x3) hC (dX7_deedsThatNeed_23) rfl rfl ?_
      refine g_ishl hC (dX7_deedsThatNeed_24) ?_
      refine g_ior hC (dX7_deedsThatNeed_25) ?_
      refine g_nmi (fun x2_26 e_x2_26 => ?_)
      have h := wpO_n e_x2_26 h
      refine g_istore_n (i := 2) (lv2 := [(2, .int x2_26), (0, .ref 5), (1, .int x1), (3, .int x3)]) hC (dX7_deedsThatNeed_26) rfl (by decide) rfl ?_
      refine g_iinc (x := x3) (v := (x3 + 1)) (lv2 := [(3, .int (x3 + 1)), (2, .int x2_26), (0, .ref 5), (1, .int x1)]) hC (dX7_deedsThatNeed_27) rfl rfl (by decide) rfl ?_
      refine g_goto (tgt := 4) hC (dX7_deedsThatNeed_30) (by decide) ?_
      refine g_sub (lv' := [(0, .ref 5), (1, .int x1), (2, .int x2_26), (3, .int (x3 + 1))]) [2, 3, 1, 0] rfl ?_
      exact ih _ _ h
set_option maxHeartbeats 4000000 in
theorem cX7_deedsThatNeed_ok {E : zE} {d : Nat} (hd : 0 ≤ d) (x1 : Int32) (M : zM) {K : Int32 → Prop} (h : wpO (fX7_deedsThatNeed x1 M) K) : CMi E d yX7_deedsThatNeed cX7_deedsThatNeed 4 (some .int) [.ref 5, .int x1] M (fun r N => M = N ∧ K r) := by
  refine CMi.of (by decide) (Nat.le_of_ble_eq_true rfl) (fun Γ hC hr => ?_)
  have hC : Cx E Γ RX7 cX7_deedsThatNeed 4 d := hC
  show G E Γ 4 0 [(0, .ref 5), (1, .int x1)] [] M
  unfold fX7_deedsThatNeed at h
  refine g_iconst (v := 0) hC (dX7_deedsThatNeed_0) kc_0 ?_
  refine g_istore_n (i := 2) (lv2 := [(2, .int 0), (0, .ref 5), (1, .int x1)]) hC (dX7_deedsThatNeed_1) rfl (by decide) rfl ?_
  refine g_iconst (v := 0) hC (dX7_deedsThatNeed_2) kc_0 ?_
  refine g_istore_n (i := 3) (lv2 := [(3, .int 0), (2, .int 0), (0, .ref 5), (1, .int x1)]) hC (dX7_deedsThatNeed_3) rfl (by decide) rfl ?_
  refine g_sub (lv' := [(0, .ref 5), (1, .int x1), (2, .int 0), (3, .int 0)]) [2, 3, 1, 0] rfl ?_
  refine wpO_bJ h (fun KL4 hKL4 h => ?_)
  refine lX7_deedsThatNeed_4 (K1 := KL4) hC (by omega) x1 M (fun x2_33 h => ?_) _ _ _ h
  have h := hKL4 _ h
  refine g_iload_n (i := 2) (x := x2_33) hC (dX7_deedsThatNeed_33) rfl rfl ?_
  refine g_ireturn hC hr (dX7_deedsThatNeed_34) ?_
  exact ⟨rfl, wpO_s h⟩
/-! LostByState$Stock.doableWith(I)I -/
theorem dX7_doableWith_0 : decode cX7_doableWith 0 = .ok (.iconst 0, 1) := by decide +kernel
theorem dX7_doableWith_1 : decode cX7_doableWith 1 = .ok (.istore_n 2, 1) := by decide +kernel
theorem dX7_doableWith_2 : decode cX7_doableWith 2 = .ok (.iconst 0, 1) := by decide +kernel
theorem dX7_doableWith_3 : decode cX7_doableWith 3 = .ok (.istore_n 3, 1) := by decide +kernel
theorem dX7_doableWith_4 : decode cX7_doableWith 4 = .ok (.iload_n 3, 1) := by decide +kernel
theorem dX7_doableWith_5 : decode cX7_doableWith 5 = .ok (.aload_n 0, 1) := by decide +kernel
theorem dX7_doableWith_6 : decode cX7_doableWith 6 = .ok (.getfield 25, 3) := by decide +kernel
theorem dX7_doableWith_9 : decode cX7_doableWith 9 = .ok (.if_icmp .ge 28, 3) := by decide +kernel
theorem dX7_doableWith_12 : decode cX7_doableWith 12 = .ok (.aload_n 0, 1) := by decide +kernel
theorem dX7_doableWith_13 : decode cX7_doableWith 13 = .ok (.getfield 18, 3) := by decide +kernel
theorem dX7_doableWith_16 : decode cX7_doableWith 16 = .ok (.iload_n 3, 1) := by decide +kernel
theorem dX7_doableWith_17 : decode cX7_doableWith 17 = .ok (.iaload, 1) := by decide +kernel
theorem dX7_doableWith_18 : decode cX7_doableWith 18 = .ok (.iload_n 1, 1) := by decide +kernel
theorem dX7_doableWith_19 : decode cX7_doableWith 19 = .ok (.iconst (-1), 1) := by decide +kernel
theorem dX7_doableWith_20 : decode cX7_doableWith 20 = .ok (.ixor, 1) := by decide +kernel
theorem dX7_doableWith_21 : decode cX7_doableWith 21 = .ok (.iand, 1) := by decide +kernel
theorem dX7_doableWith_22 : decode cX7_doableWith 22 = .ok (.ifCond .ne 9, 3) := by decide +kernel
theorem dX7_doableWith_25 : decode cX7_doableWith 25 = .ok (.iload_n 2, 1) := by decide +kernel
theorem dX7_doableWith_26 : decode cX7_doableWith 26 = .ok (.iconst 1, 1) := by decide +kernel
theorem dX7_doableWith_27 : decode cX7_doableWith 27 = .ok (.iload_n 3, 1) := by decide +kernel
theorem dX7_doableWith_28 : decode cX7_doableWith 28 = .ok (.ishl, 1) := by decide +kernel
theorem dX7_doableWith_29 : decode cX7_doableWith 29 = .ok (.ior, 1) := by decide +kernel
theorem dX7_doableWith_30 : decode cX7_doableWith 30 = .ok (.istore_n 2, 1) := by decide +kernel
theorem dX7_doableWith_31 : decode cX7_doableWith 31 = .ok (.iinc 3 1, 3) := by decide +kernel
theorem dX7_doableWith_34 : decode cX7_doableWith 34 = .ok (.goto (-30), 3) := by decide +kernel
theorem dX7_doableWith_37 : decode cX7_doableWith 37 = .ok (.iload_n 2, 1) := by decide +kernel
theorem dX7_doableWith_38 : decode cX7_doableWith 38 = .ok (.ireturn, 1) := by decide +kernel
def fX7_doableWith_L4 (x1 : Int32) (M : zM) : Nat → Int32 → Int32 → Option Int32
  | 0, _, _ => none
  | n + 1, x2, x3 => if (M.1 5 4) ≤ x3 then (
    some x2)
    else (
    if zin x3 6 then (
    zlet (if ((M.1 8 x3.toNatClampNeg) &&& (x1 ^^^ (-1))) = 0 then (
    zlet (x2 ||| (zshl 1 x3)) fun (x2_30 : Int32) =>
    x2_30)
    else (
    x2)) fun (x2_31 : Int32) =>
    fX7_doableWith_L4 x1 M n x2_31 (x3 + 1)) else none)
def fX7_doableWith (x1 : Int32) (M : zM) : Option Int32 := (fX7_doableWith_L4 x1 M 4000 0 0).bind fun (x2_37 : Int32) =>
  some x2_37
set_option maxHeartbeats 4000000 in
theorem lX7_doableWith_4 {E : zE} {Γ : zT} {d : Nat} {K1 : Int32 → Prop} (hC : Cx E Γ RX7 cX7_doableWith 4 d) (hd : 0 ≤ d) (x1 : Int32) (M : zM) (hx : ∀ (x2_37 : Int32), K1 x2_37 → G E Γ 4 37 [(2, .int x2_37)] [] M) :
    ∀ (n : Nat) (x2 : Int32) (x3 : Int32), wpO (fX7_doableWith_L4 x1 M n x2 x3) K1 → G E Γ 4 4 [(0, .ref 5), (1, .int x1), (2, .int x2), (3, .int x3)] [] M := by
  intro n
  induction n with
  | zero =>
    intro x2 x3 h
    exact (wpO_0 h).elim
  | succ n ih =>
    intro x2 x3 h
    rw [fX7_doableWith_L4.eq_2] at h
    refine g_iload_n (i := 3) (x := x3) hC (dX7_doableWith_4) rfl rfl ?_
    refine g_aload_n (i := 0) (x := 5) hC (dX7_doableWith_5) rfl rfl ?_
    refine g_getI hC flX7_25 (dX7_doableWith_6) rfl rfl ?_
    refine g_icmp_ge (tgt := 37) hC (dX7_doableWith_9) (by decide) (fun c9 => ?_) (fun c9 => ?_)
    · have h := wpO_t c9 h
      refine g_sub (lv' := [(2, .int x2)]) [2] rfl ?_
      exact hx _ (wpO_s h)
    · have h := wpO_f c9 h
      refine g_aload_n (i := 0) (x := 5) hC (dX7_doableWith_12) rfl rfl ?_
      refine g_getR (r := 8) hC flX7_18 (dX7_doableWith_13) rfl rfl rfl ?_
      refine g_iload_n (i := 3) (x := x3) hC (dX7_doableWith_16) rfl rfl ?_
      obtain ⟨q1, h⟩ := wpO_g h
      refine g_iaload (n := 6) hC (dX7_doableWith_17) rfl q1 ?_
      refine g_iload_n (i := 1) (x := x1) hC (dX7_doableWith_18) rfl rfl ?_
      refine g_iconst (v := (-1)) hC (dX7_doableWith_19) kc_m1 ?_
      refine g_ixor hC (dX7_doableWith_20) ?_
      refine g_iand hC (dX7_doableWith_21) ?_
      obtain ⟨x2_31, e_x2_31, h⟩ := wpO_l h
      have hJ2 : G E Γ 4 31 [(0, .ref 5), (1, .int x1), (2, .int x2_31), (3, .int x3)] [] M := by
        refine g_iinc (x := x3) (v := (x3 + 1)) (lv2 := [(3, .int (x3 + 1)), (0, .ref 5), (1, .int x1), (2, .int x2_31)]) hC (dX7_doableWith_31) rfl rfl (by decide) rfl ?_
        refine g_goto (tgt := 4) hC (dX7_doableWith_34) (by decide) ?_
        refine g_sub (lv' := [(0, .ref 5), (1, .int x1), (2, .int x2_31), (3, .int (x3 + 1))]) [1, 2, 3, 0] rfl ?_
        exact ih _ _ h
      refine g_if_ne (tgt := 31) hC (dX7_doableWith_22) (by decide) (fun c22 => ?_) (fun c22 => ?_)
      · rw [if_neg c22] at e_x2_31
        subst e_x2_31
        exact hJ2
      · rw [if_pos c22] at e_x2_31
        refine g_iload_n (i := 2) (x := x2) hC (dX7_doableWith_25) rfl rfl ?_
        refine g_iconst (v := 1) hC (dX7_doableWith_26) kc_1 ?_
        refine g_iload_n (i := 3) (x := x3) hC (dX7_doableWith_27) rfl rfl ?_
        refine g_ishl hC (dX7_doableWith_28) ?_
        refine g_ior hC (dX7_doableWith_29) ?_
        refine g_nmi (fun x2_30 e_x2_30 => ?_)
        have e_x2_31 := zle e_x2_30 e_x2_31
        refine g_istore_n (i := 2) (lv2 := [(2, .int x2_30), (0, .ref 5), (1, .int x1), (3, .int x3)]) hC (dX7_doableWith_30) rfl (by decide) rfl ?_
        refine g_sub (lv' := [(0, .ref 5), (1, .int x1), (2, .int x2_30), (3, .int x3)]) [1, 2, 0, 3] rfl ?_
        subst e_x2_31
        exact hJ2
set_option maxHeartbeats 4000000 in
theorem cX7_doableWith_ok {E : zE} {d : Nat} (hd : 0 ≤ d) (x1 : Int32) (M : zM) {K : Int32 → Prop} (h : wpO (fX7_doableWith x1 M) K) : CMi E d yX7_doableWith cX7_doableWith 4 (some .int) [.ref 5, .int x1] M (fun r N => M = N ∧ K r) := by
  refine CMi.of (by decide) (Nat.le_of_ble_eq_true rfl) (fun Γ hC hr => ?_)
  have hC : Cx E Γ RX7 cX7_doableWith 4 d := hC
  show G E Γ 4 0 [(0, .ref 5), (1, .int x1)] [] M
  unfold fX7_doableWith at h
  refine g_iconst (v := 0) hC (dX7_doableWith_0) kc_0 ?_
  refine g_istore_n (i := 2) (lv2 := [(2, .int 0), (0, .ref 5), (1, .int x1)]) hC (dX7_doableWith_1) rfl (by decide) rfl ?_
  refine g_iconst (v := 0) hC (dX7_doableWith_2) kc_0 ?_
  refine g_istore_n (i := 3) (lv2 := [(3, .int 0), (2, .int 0), (0, .ref 5), (1, .int x1)]) hC (dX7_doableWith_3) rfl (by decide) rfl ?_
  refine g_sub (lv' := [(0, .ref 5), (1, .int x1), (2, .int 0), (3, .int 0)]) [2, 3, 1, 0] rfl ?_
  refine wpO_bJ h (fun KL4 hKL4 h => ?_)
  refine lX7_doableWith_4 (K1 := KL4) hC (by omega) x1 M (fun x2_37 h => ?_) _ _ _ h
  have h := hKL4 _ h
  refine g_iload_n (i := 2) (x := x2_37) hC (dX7_doableWith_37) rfl rfl ?_
  refine g_ireturn hC hr (dX7_doableWith_38) ?_
  exact ⟨rfl, wpO_s h⟩
/-! LostByState$Stock.allNeeds()I -/
theorem dX7_allNeeds_0 : decode cX7_allNeeds 0 = .ok (.iconst 0, 1) := by decide +kernel
theorem dX7_allNeeds_1 : decode cX7_allNeeds 1 = .ok (.istore_n 1, 1) := by decide +kernel
theorem dX7_allNeeds_2 : decode cX7_allNeeds 2 = .ok (.iconst 0, 1) := by decide +kernel
theorem dX7_allNeeds_3 : decode cX7_allNeeds 3 = .ok (.istore_n 2, 1) := by decide +kernel
theorem dX7_allNeeds_4 : decode cX7_allNeeds 4 = .ok (.iload_n 2, 1) := by decide +kernel
theorem dX7_allNeeds_5 : decode cX7_allNeeds 5 = .ok (.aload_n 0, 1) := by decide +kernel
theorem dX7_allNeeds_6 : decode cX7_allNeeds 6 = .ok (.getfield 25, 3) := by decide +kernel
theorem dX7_allNeeds_9 : decode cX7_allNeeds 9 = .ok (.if_icmp .ge 18, 3) := by decide +kernel
theorem dX7_allNeeds_12 : decode cX7_allNeeds 12 = .ok (.iload_n 1, 1) := by decide +kernel
theorem dX7_allNeeds_13 : decode cX7_allNeeds 13 = .ok (.aload_n 0, 1) := by decide +kernel
theorem dX7_allNeeds_14 : decode cX7_allNeeds 14 = .ok (.getfield 18, 3) := by decide +kernel
theorem dX7_allNeeds_17 : decode cX7_allNeeds 17 = .ok (.iload_n 2, 1) := by decide +kernel
theorem dX7_allNeeds_18 : decode cX7_allNeeds 18 = .ok (.iaload, 1) := by decide +kernel
theorem dX7_allNeeds_19 : decode cX7_allNeeds 19 = .ok (.ior, 1) := by decide +kernel
theorem dX7_allNeeds_20 : decode cX7_allNeeds 20 = .ok (.istore_n 1, 1) := by decide +kernel
theorem dX7_allNeeds_21 : decode cX7_allNeeds 21 = .ok (.iinc 2 1, 3) := by decide +kernel
theorem dX7_allNeeds_24 : decode cX7_allNeeds 24 = .ok (.goto (-20), 3) := by decide +kernel
theorem dX7_allNeeds_27 : decode cX7_allNeeds 27 = .ok (.iload_n 1, 1) := by decide +kernel
theorem dX7_allNeeds_28 : decode cX7_allNeeds 28 = .ok (.ireturn, 1) := by decide +kernel
def fX7_allNeeds_L4 (M : zM) : Nat → Int32 → Int32 → Option Int32
  | 0, _, _ => none
  | n + 1, x1, x2 => if (M.1 5 4) ≤ x2 then (
    some x1)
    else (
    if zin x2 6 then (
    zlet (x1 ||| (M.1 8 x2.toNatClampNeg)) fun (x1_20 : Int32) =>
    fX7_allNeeds_L4 M n x1_20 (x2 + 1)) else none)
def fX7_allNeeds  (M : zM) : Option Int32 := (fX7_allNeeds_L4 M 4000 0 0).bind fun (x1_27 : Int32) =>
  some x1_27
set_option maxHeartbeats 4000000 in
theorem lX7_allNeeds_4 {E : zE} {Γ : zT} {d : Nat} {K1 : Int32 → Prop} (hC : Cx E Γ RX7 cX7_allNeeds 3 d) (hd : 0 ≤ d) (M : zM) (hx : ∀ (x1_27 : Int32), K1 x1_27 → G E Γ 3 27 [(1, .int x1_27)] [] M) :
    ∀ (n : Nat) (x1 : Int32) (x2 : Int32), wpO (fX7_allNeeds_L4 M n x1 x2) K1 → G E Γ 3 4 [(0, .ref 5), (1, .int x1), (2, .int x2)] [] M := by
  intro n
  induction n with
  | zero =>
    intro x1 x2 h
    exact (wpO_0 h).elim
  | succ n ih =>
    intro x1 x2 h
    rw [fX7_allNeeds_L4.eq_2] at h
    refine g_iload_n (i := 2) (x := x2) hC (dX7_allNeeds_4) rfl rfl ?_
    refine g_aload_n (i := 0) (x := 5) hC (dX7_allNeeds_5) rfl rfl ?_
    refine g_getI hC flX7_25 (dX7_allNeeds_6) rfl rfl ?_
    refine g_icmp_ge (tgt := 27) hC (dX7_allNeeds_9) (by decide) (fun c9 => ?_) (fun c9 => ?_)
    · have h := wpO_t c9 h
      refine g_sub (lv' := [(1, .int x1)]) [1] rfl ?_
      exact hx _ (wpO_s h)
    · have h := wpO_f c9 h
      refine g_iload_n (i := 1) (x := x1) hC (dX7_allNeeds_12) rfl rfl ?_
      refine g_aload_n (i := 0) (x := 5) hC (dX7_allNeeds_13) rfl rfl ?_
      refine g_getR (r := 8) hC flX7_18 (dX7_allNeeds_14) rfl rfl rfl ?_
      refine g_iload_n (i := 2) (x := x2) hC (dX7_allNeeds_17) rfl rfl ?_
      obtain ⟨q1, h⟩ := wpO_g h
      refine g_iaload (n := 6) hC (dX7_allNeeds_18) rfl q1 ?_
      refine g_ior hC (dX7_allNeeds_19) ?_
      refine g_nmi (fun x1_20 e_x1_20 => ?_)
      have h := wpO_n e_x1_20 h
      refine g_istore_n (i := 1) (lv2 := [(1, .int x1_20), (0, .ref 5), (2, .int x2)]) hC (dX7_allNeeds_20) rfl (by decide) rfl ?_
      refine g_iinc (x := x2) (v := (x2 + 1)) (lv2 := [(2, .int (x2 + 1)), (1, .int x1_20), (0, .ref 5)]) hC (dX7_allNeeds_21) rfl rfl (by decide) rfl ?_
      refine g_goto (tgt := 4) hC (dX7_allNeeds_24) (by decide) ?_
      refine g_sub (lv' := [(0, .ref 5), (1, .int x1_20), (2, .int (x2 + 1))]) [2, 1, 0] rfl ?_
      exact ih _ _ h
set_option maxHeartbeats 4000000 in
theorem cX7_allNeeds_ok {E : zE} {d : Nat} (hd : 0 ≤ d)  (M : zM) {K : Int32 → Prop} (h : wpO (fX7_allNeeds  M) K) : CMi E d yX7_allNeeds cX7_allNeeds 3 (some .int) [.ref 5] M (fun r N => M = N ∧ K r) := by
  refine CMi.of (by decide) (Nat.le_of_ble_eq_true rfl) (fun Γ hC hr => ?_)
  have hC : Cx E Γ RX7 cX7_allNeeds 3 d := hC
  show G E Γ 3 0 [(0, .ref 5)] [] M
  unfold fX7_allNeeds at h
  refine g_iconst (v := 0) hC (dX7_allNeeds_0) kc_0 ?_
  refine g_istore_n (i := 1) (lv2 := [(1, .int 0), (0, .ref 5)]) hC (dX7_allNeeds_1) rfl (by decide) rfl ?_
  refine g_iconst (v := 0) hC (dX7_allNeeds_2) kc_0 ?_
  refine g_istore_n (i := 2) (lv2 := [(2, .int 0), (1, .int 0), (0, .ref 5)]) hC (dX7_allNeeds_3) rfl (by decide) rfl ?_
  refine g_sub (lv' := [(0, .ref 5), (1, .int 0), (2, .int 0)]) [2, 1, 0] rfl ?_
  refine wpO_bJ h (fun KL4 hKL4 h => ?_)
  refine lX7_allNeeds_4 (K1 := KL4) hC (by omega) M (fun x1_27 h => ?_) _ _ _ h
  have h := hKL4 _ h
  refine g_iload_n (i := 1) (x := x1_27) hC (dX7_allNeeds_27) rfl rfl ?_
  refine g_ireturn hC hr (dX7_allNeeds_28) ?_
  exact ⟨rfl, wpO_s h⟩
/-! LostByState$Stock.worthOf(I)I -/
theorem dX7_worthOf_0 : decode cX7_worthOf 0 = .ok (.iconst 0, 1) := by decide +kernel
theorem dX7_worthOf_1 : decode cX7_worthOf 1 = .ok (.istore_n 2, 1) := by decide +kernel
theorem dX7_worthOf_2 : decode cX7_worthOf 2 = .ok (.iconst 0, 1) := by decide +kernel
theorem dX7_worthOf_3 : decode cX7_worthOf 3 = .ok (.istore_n 3, 1) := by decide +kernel
theorem dX7_worthOf_4 : decode cX7_worthOf 4 = .ok (.iload_n 3, 1) := by decide +kernel
theorem dX7_worthOf_5 : decode cX7_worthOf 5 = .ok (.aload_n 0, 1) := by decide +kernel
theorem dX7_worthOf_6 : decode cX7_worthOf 6 = .ok (.getfield 21, 3) := by decide +kernel
theorem dX7_worthOf_9 : decode cX7_worthOf 9 = .ok (.if_icmp .ge 26, 3) := by decide +kernel
theorem dX7_worthOf_12 : decode cX7_worthOf 12 = .ok (.iload_n 1, 1) := by decide +kernel
theorem dX7_worthOf_13 : decode cX7_worthOf 13 = .ok (.iload_n 3, 1) := by decide +kernel
theorem dX7_worthOf_14 : decode cX7_worthOf 14 = .ok (.invokestatic 47, 3) := by decide +kernel
theorem dX7_worthOf_17 : decode cX7_worthOf 17 = .ok (.ifCond .eq 12, 3) := by decide +kernel
theorem dX7_worthOf_20 : decode cX7_worthOf 20 = .ok (.iload_n 2, 1) := by decide +kernel
theorem dX7_worthOf_21 : decode cX7_worthOf 21 = .ok (.aload_n 0, 1) := by decide +kernel
theorem dX7_worthOf_22 : decode cX7_worthOf 22 = .ok (.getfield 15, 3) := by decide +kernel
theorem dX7_worthOf_25 : decode cX7_worthOf 25 = .ok (.iload_n 3, 1) := by decide +kernel
theorem dX7_worthOf_26 : decode cX7_worthOf 26 = .ok (.iaload, 1) := by decide +kernel
theorem dX7_worthOf_27 : decode cX7_worthOf 27 = .ok (.iadd, 1) := by decide +kernel
theorem dX7_worthOf_28 : decode cX7_worthOf 28 = .ok (.istore_n 2, 1) := by decide +kernel
theorem dX7_worthOf_29 : decode cX7_worthOf 29 = .ok (.iinc 3 1, 3) := by decide +kernel
theorem dX7_worthOf_32 : decode cX7_worthOf 32 = .ok (.goto (-28), 3) := by decide +kernel
theorem dX7_worthOf_35 : decode cX7_worthOf 35 = .ok (.iload_n 2, 1) := by decide +kernel
theorem dX7_worthOf_36 : decode cX7_worthOf 36 = .ok (.ireturn, 1) := by decide +kernel
def fX7_worthOf_L4 (x1 : Int32) (M : zM) : Nat → Int32 → Int32 → Option Int32
  | 0, _, _ => none
  | n + 1, x2, x3 => if (M.1 5 3) ≤ x3 then (
    some x2)
    else (
    (if (fX11_isOf x1 x3) = 0 then (
    some x2)
    else (
    if zin x3 8 then (
    zlet (x2 + (M.1 7 x3.toNatClampNeg)) fun (x2_28 : Int32) =>
    some x2_28) else none) : Option Int32).bind fun (x2_29 : Int32) =>
    fX7_worthOf_L4 x1 M n x2_29 (x3 + 1))
def fX7_worthOf (x1 : Int32) (M : zM) : Option Int32 := (fX7_worthOf_L4 x1 M 4000 0 0).bind fun (x2_35 : Int32) =>
  some x2_35
set_option maxHeartbeats 4000000 in
theorem lX7_worthOf_4 {E : zE} {Γ : zT} {d : Nat} {K1 : Int32 → Prop} (hC : Cx E Γ RX7 cX7_worthOf 4 d) (hd : 1 ≤ d) (x1 : Int32) (M : zM) (hx : ∀ (x2_35 : Int32), K1 x2_35 → G E Γ 4 35 [(2, .int x2_35)] [] M) :
    ∀ (n : Nat) (x2 : Int32) (x3 : Int32), wpO (fX7_worthOf_L4 x1 M n x2 x3) K1 → G E Γ 4 4 [(0, .ref 5), (1, .int x1), (2, .int x2), (3, .int x3)] [] M := by
  intro n
  induction n with
  | zero =>
    intro x2 x3 h
    exact (wpO_0 h).elim
  | succ n ih =>
    intro x2 x3 h
    rw [fX7_worthOf_L4.eq_2] at h
    refine g_iload_n (i := 3) (x := x3) hC (dX7_worthOf_4) rfl rfl ?_
    refine g_aload_n (i := 0) (x := 5) hC (dX7_worthOf_5) rfl rfl ?_
    refine g_getI hC flX7_21 (dX7_worthOf_6) rfl rfl ?_
    refine g_icmp_ge (tgt := 35) hC (dX7_worthOf_9) (by decide) (fun c9 => ?_) (fun c9 => ?_)
    · have h := wpO_t c9 h
      refine g_sub (lv' := [(2, .int x2)]) [2] rfl ?_
      exact hx _ (wpO_s h)
    · have h := wpO_f c9 h
      refine g_iload_n (i := 1) (x := x1) hC (dX7_worthOf_12) rfl rfl ?_
      refine g_iload_n (i := 3) (x := x3) hC (dX7_worthOf_13) rfl rfl ?_
      refine g_callNi ([.int x1, .int x3]) hC wnX7_47 (dX7_worthOf_14) rfl (by omega) (Nat.le_of_ble_eq_true rfl) (cX11_isOf_ok (by omega) x1 x3 M (K := fun r => r = fX11_isOf x1 x3) rfl) (fun r N q => ?_)
      obtain ⟨rfl, rfl⟩ := q
      refine wpO_bJ h (fun KJ2 hKJ2 h => ?_)
      have hJ2 : ∀ (x2_29 : Int32), KJ2 x2_29 → G E Γ 4 29 [(0, .ref 5), (1, .int x1), (2, .int x2_29), (3, .int x3)] [] M := by
        intro x2_29 h
        have h := hKJ2 _ h
        refine g_iinc (x := x3) (v := (x3 + 1)) (lv2 := [(3, .int (x3 + 1)), (0, .ref 5), (1, .int x1), (2, .int x2_29)]) hC (dX7_worthOf_29) rfl rfl (by decide) rfl ?_
        refine g_goto (tgt := 4) hC (dX7_worthOf_32) (by decide) ?_
        refine g_sub (lv' := [(0, .ref 5), (1, .int x1), (2, .int x2_29), (3, .int (x3 + 1))]) [1, 2, 3, 0] rfl ?_
        exact ih _ _ h
      refine g_if_eq (tgt := 29) hC (dX7_worthOf_17) (by decide) (fun c17 => ?_) (fun c17 => ?_)
      · have h := wpO_t c17 h
        exact hJ2 _ (wpO_s h)
      · have h := wpO_f c17 h
        refine g_iload_n (i := 2) (x := x2) hC (dX7_worthOf_20) rfl rfl ?_
        refine g_aload_n (i := 0) (x := 5) hC (dX7_worthOf_21) rfl rfl ?_
        refine g_getR (r := 7) hC flX7_15 (dX7_worthOf_22) rfl rfl rfl ?_
        refine g_iload_n (i := 3) (x := x3) hC (dX7_worthOf_25) rfl rfl ?_
        obtain ⟨q3, h⟩ := wpO_g h
        refine g_iaload (n := 8) hC (dX7_worthOf_26) rfl q3 ?_
        refine g_iadd hC (dX7_worthOf_27) ?_
        refine g_nmi (fun x2_28 e_x2_28 => ?_)
        have h := wpO_n e_x2_28 h
        refine g_istore_n (i := 2) (lv2 := [(2, .int x2_28), (0, .ref 5), (1, .int x1), (3, .int x3)]) hC (dX7_worthOf_28) rfl (by decide) rfl ?_
        refine g_sub (lv' := [(0, .ref 5), (1, .int x1), (2, .int x2_28), (3, .int x3)]) [1, 2, 0, 3] rfl ?_
        exact hJ2 _ (wpO_s h)
set_option maxHeartbeats 4000000 in
theorem cX7_worthOf_ok {E : zE} {d : Nat} (hd : 1 ≤ d) (x1 : Int32) (M : zM) {K : Int32 → Prop} (h : wpO (fX7_worthOf x1 M) K) : CMi E d yX7_worthOf cX7_worthOf 4 (some .int) [.ref 5, .int x1] M (fun r N => M = N ∧ K r) := by
  refine CMi.of (by decide) (Nat.le_of_ble_eq_true rfl) (fun Γ hC hr => ?_)
  have hC : Cx E Γ RX7 cX7_worthOf 4 d := hC
  show G E Γ 4 0 [(0, .ref 5), (1, .int x1)] [] M
  unfold fX7_worthOf at h
  refine g_iconst (v := 0) hC (dX7_worthOf_0) kc_0 ?_
  refine g_istore_n (i := 2) (lv2 := [(2, .int 0), (0, .ref 5), (1, .int x1)]) hC (dX7_worthOf_1) rfl (by decide) rfl ?_
  refine g_iconst (v := 0) hC (dX7_worthOf_2) kc_0 ?_
  refine g_istore_n (i := 3) (lv2 := [(3, .int 0), (2, .int 0), (0, .ref 5), (1, .int x1)]) hC (dX7_worthOf_3) rfl (by decide) rfl ?_
  refine g_sub (lv' := [(0, .ref 5), (1, .int x1), (2, .int 0), (3, .int 0)]) [2, 3, 1, 0] rfl ?_
  refine wpO_bJ h (fun KL4 hKL4 h => ?_)
  refine lX7_worthOf_4 (K1 := KL4) hC (by omega) x1 M (fun x2_35 h => ?_) _ _ _ h
  have h := hKL4 _ h
  refine g_iload_n (i := 2) (x := x2_35) hC (dX7_worthOf_35) rfl rfl ?_
  refine g_ireturn hC hr (dX7_worthOf_36) ?_
  exact ⟨rfl, wpO_s h⟩
/-! LostByState$Stock.thingsMarked(I)I -/
theorem dX7_thingsMarked_0 : decode cX7_thingsMarked 0 = .ok (.iconst 0, 1) := by decide +kernel
theorem dX7_thingsMarked_1 : decode cX7_thingsMarked 1 = .ok (.istore_n 2, 1) := by decide +kernel
theorem dX7_thingsMarked_2 : decode cX7_thingsMarked 2 = .ok (.iconst 0, 1) := by decide +kernel
theorem dX7_thingsMarked_3 : decode cX7_thingsMarked 3 = .ok (.istore_n 3, 1) := by decide +kernel
theorem dX7_thingsMarked_4 : decode cX7_thingsMarked 4 = .ok (.iload_n 3, 1) := by decide +kernel
theorem dX7_thingsMarked_5 : decode cX7_thingsMarked 5 = .ok (.aload_n 0, 1) := by decide +kernel
theorem dX7_thingsMarked_6 : decode cX7_thingsMarked 6 = .ok (.getfield 21, 3) := by decide +kernel
theorem dX7_thingsMarked_9 : decode cX7_thingsMarked 9 = .ok (.if_icmp .ge 24, 3) := by decide +kernel
theorem dX7_thingsMarked_12 : decode cX7_thingsMarked 12 = .ok (.iload_n 2, 1) := by decide +kernel
theorem dX7_thingsMarked_13 : decode cX7_thingsMarked 13 = .ok (.aload_n 0, 1) := by decide +kernel
theorem dX7_thingsMarked_14 : decode cX7_thingsMarked 14 = .ok (.getfield 9, 3) := by decide +kernel
theorem dX7_thingsMarked_17 : decode cX7_thingsMarked 17 = .ok (.iload_n 3, 1) := by decide +kernel
theorem dX7_thingsMarked_18 : decode cX7_thingsMarked 18 = .ok (.iaload, 1) := by decide +kernel
theorem dX7_thingsMarked_19 : decode cX7_thingsMarked 19 = .ok (.iload_n 1, 1) := by decide +kernel
theorem dX7_thingsMarked_20 : decode cX7_thingsMarked 20 = .ok (.ishr, 1) := by decide +kernel
theorem dX7_thingsMarked_21 : decode cX7_thingsMarked 21 = .ok (.iconst 1, 1) := by decide +kernel
theorem dX7_thingsMarked_22 : decode cX7_thingsMarked 22 = .ok (.iand, 1) := by decide +kernel
theorem dX7_thingsMarked_23 : decode cX7_thingsMarked 23 = .ok (.iload_n 3, 1) := by decide +kernel
theorem dX7_thingsMarked_24 : decode cX7_thingsMarked 24 = .ok (.ishl, 1) := by decide +kernel
theorem dX7_thingsMarked_25 : decode cX7_thingsMarked 25 = .ok (.ior, 1) := by decide +kernel
theorem dX7_thingsMarked_26 : decode cX7_thingsMarked 26 = .ok (.istore_n 2, 1) := by decide +kernel
theorem dX7_thingsMarked_27 : decode cX7_thingsMarked 27 = .ok (.iinc 3 1, 3) := by decide +kernel
theorem dX7_thingsMarked_30 : decode cX7_thingsMarked 30 = .ok (.goto (-26), 3) := by decide +kernel
theorem dX7_thingsMarked_33 : decode cX7_thingsMarked 33 = .ok (.iload_n 2, 1) := by decide +kernel
theorem dX7_thingsMarked_34 : decode cX7_thingsMarked 34 = .ok (.ireturn, 1) := by decide +kernel
def fX7_thingsMarked_L4 (x1 : Int32) (M : zM) : Nat → Int32 → Int32 → Option Int32
  | 0, _, _ => none
  | n + 1, x2, x3 => if (M.1 5 3) ≤ x3 then (
    some x2)
    else (
    if zin x3 8 then (
    zlet (x2 ||| (zshl ((zshr (M.1 6 x3.toNatClampNeg) x1) &&& 1) x3)) fun (x2_26 : Int32) =>
    fX7_thingsMarked_L4 x1 M n x2_26 (x3 + 1)) else none)
def fX7_thingsMarked (x1 : Int32) (M : zM) : Option Int32 := (fX7_thingsMarked_L4 x1 M 4000 0 0).bind fun (x2_33 : Int32) =>
  some x2_33
set_option maxHeartbeats 4000000 in
theorem lX7_thingsMarked_4 {E : zE} {Γ : zT} {d : Nat} {K1 : Int32 → Prop} (hC : Cx E Γ RX7 cX7_thingsMarked 4 d) (hd : 0 ≤ d) (x1 : Int32) (M : zM) (hx : ∀ (x2_33 : Int32), K1 x2_33 → G E Γ 4 33 [(2, .int x2_33)] [] M) :
    ∀ (n : Nat) (x2 : Int32) (x3 : Int32), wpO (fX7_thingsMarked_L4 x1 M n x2 x3) K1 → G E Γ 4 4 [(0, .ref 5), (1, .int x1), (2, .int x2), (3, .int x3)] [] M := by
  intro n
  induction n with
  | zero =>
    intro x2 x3 h
    exact (wpO_0 h).elim
  | succ n ih =>
    intro x2 x3 h
    rw [fX7_thingsMarked_L4.eq_2] at h
    refine g_iload_n (i := 3) (x := x3) hC (dX7_thingsMarked_4) rfl rfl ?_
    refine g_aload_n (i := 0) (x := 5) hC (dX7_thingsMarked_5) rfl rfl ?_
    refine g_getI hC flX7_21 (dX7_thingsMarked_6) rfl rfl ?_
    refine g_icmp_ge (tgt := 33) hC (dX7_thingsMarked_9) (by decide) (fun c9 => ?_) (fun c9 => ?_)
    · have h := wpO_t c9 h
      refine g_sub (lv' := [(2, .int x2)]) [2] rfl ?_
      exact hx _ (wpO_s h)
    · have h := wpO_f c9 h
      refine g_iload_n (i := 2) (x := x2) hC (dX7_thingsMarked_12) rfl rfl ?_
      refine g_aload_n (i := 0) (x := 5) hC (dX7_thingsMarked_13) rfl rfl ?_
      refine g_getR (r := 6) hC flX7_9 (dX7_thingsMarked_14) rfl rfl rfl ?_
      refine g_iload_n (i := 3) (x := x3) hC (dX7_thingsMarked_17) rfl rfl ?_
      obtain ⟨q1, h⟩ := wpO_g h
      refine g_iaload (n := 8) hC (dX7_thingsMarked_18) rfl q1 ?_
      refine g_iload_n (i := 1) (x := x1) hC (dX7_thingsMarked_19) rfl rfl ?_
      refine g_ishr hC (dX7_thingsMarked_20) ?_
      refine g_iconst (v := 1) hC (dX7_thingsMarked_21) kc_1 ?_
      refine g_iand hC (dX7_thingsMarked_22) ?_
      refine g_iload_n (i := 3) (x := x3) hC (dX7_thingsMarked_23) rfl rfl ?_
      refine g_ishl hC (dX7_thingsMarked_24) ?_
      refine g_ior hC (dX7_thingsMarked_25) ?_
      refine g_nmi (fun x2_26 e_x2_26 => ?_)
      have h := wpO_n e_x2_26 h
      refine g_istore_n (i := 2) (lv2 := [(2, .int x2_26), (0, .ref 5), (1, .int x1), (3, .int x3)]) hC (dX7_thingsMarked_26) rfl (by decide) rfl ?_
      refine g_iinc (x := x3) (v := (x3 + 1)) (lv2 := [(3, .int (x3 + 1)), (2, .int x2_26), (0, .ref 5), (1, .int x1)]) hC (dX7_thingsMarked_27) rfl rfl (by decide) rfl ?_
      refine g_goto (tgt := 4) hC (dX7_thingsMarked_30) (by decide) ?_
      refine g_sub (lv' := [(0, .ref 5), (1, .int x1), (2, .int x2_26), (3, .int (x3 + 1))]) [2, 3, 1, 0] rfl ?_
      exact ih _ _ h
set_option maxHeartbeats 4000000 in
theorem cX7_thingsMarked_ok {E : zE} {d : Nat} (hd : 0 ≤ d) (x1 : Int32) (M : zM) {K : Int32 → Prop} (h : wpO (fX7_thingsMarked x1 M) K) : CMi E d yX7_thingsMarked cX7_thingsMarked 4 (some .int) [.ref 5, .int x1] M (fun r N => M = N ∧ K r) := by
  refine CMi.of (by decide) (Nat.le_of_ble_eq_true rfl) (fun Γ hC hr => ?_)
  have hC : Cx E Γ RX7 cX7_thingsMarked 4 d := hC
  show G E Γ 4 0 [(0, .ref 5), (1, .int x1)] [] M
  unfold fX7_thingsMarked at h
  refine g_iconst (v := 0) hC (dX7_thingsMarked_0) kc_0 ?_
  refine g_istore_n (i := 2) (lv2 := [(2, .int 0), (0, .ref 5), (1, .int x1)]) hC (dX7_thingsMarked_1) rfl (by decide) rfl ?_
  refine g_iconst (v := 0) hC (dX7_thingsMarked_2) kc_0 ?_
  refine g_istore_n (i := 3) (lv2 := [(3, .int 0), (2, .int 0), (0, .ref 5), (1, .int x1)]) hC (dX7_thingsMarked_3) rfl (by decide) rfl ?_
  refine g_sub (lv' := [(0, .ref 5), (1, .int x1), (2, .int 0), (3, .int 0)]) [2, 3, 1, 0] rfl ?_
  refine wpO_bJ h (fun KL4 hKL4 h => ?_)
  refine lX7_thingsMarked_4 (K1 := KL4) hC (by omega) x1 M (fun x2_33 h => ?_) _ _ _ h
  have h := hKL4 _ h
  refine g_iload_n (i := 2) (x := x2_33) hC (dX7_thingsMarked_33) rfl rfl ?_
  refine g_ireturn hC hr (dX7_thingsMarked_34) ?_
  exact ⟨rfl, wpO_s h⟩
/-! LostByState$Stock.allDifferIn(I)Z -/
theorem dX7_allDifferIn_0 : decode cX7_allDifferIn 0 = .ok (.iconst 0, 1) := by decide +kernel
theorem dX7_allDifferIn_1 : decode cX7_allDifferIn 1 = .ok (.istore_n 2, 1) := by decide +kernel
theorem dX7_allDifferIn_2 : decode cX7_allDifferIn 2 = .ok (.iload_n 2, 1) := by decide +kernel
theorem dX7_allDifferIn_3 : decode cX7_allDifferIn 3 = .ok (.aload_n 0, 1) := by decide +kernel
theorem dX7_allDifferIn_4 : decode cX7_allDifferIn 4 = .ok (.getfield 21, 3) := by decide +kernel
theorem dX7_allDifferIn_7 : decode cX7_allDifferIn 7 = .ok (.if_icmp .ge 47, 3) := by decide +kernel
theorem dX7_allDifferIn_10 : decode cX7_allDifferIn 10 = .ok (.iload_n 2, 1) := by decide +kernel
theorem dX7_allDifferIn_11 : decode cX7_allDifferIn 11 = .ok (.iconst 1, 1) := by decide +kernel
theorem dX7_allDifferIn_12 : decode cX7_allDifferIn 12 = .ok (.iadd, 1) := by decide +kernel
theorem dX7_allDifferIn_13 : decode cX7_allDifferIn 13 = .ok (.istore_n 3, 1) := by decide +kernel
theorem dX7_allDifferIn_14 : decode cX7_allDifferIn 14 = .ok (.iload_n 3, 1) := by decide +kernel
theorem dX7_allDifferIn_15 : decode cX7_allDifferIn 15 = .ok (.aload_n 0, 1) := by decide +kernel
theorem dX7_allDifferIn_16 : decode cX7_allDifferIn 16 = .ok (.getfield 21, 3) := by decide +kernel
theorem dX7_allDifferIn_19 : decode cX7_allDifferIn 19 = .ok (.if_icmp .ge 29, 3) := by decide +kernel
theorem dX7_allDifferIn_22 : decode cX7_allDifferIn 22 = .ok (.aload_n 0, 1) := by decide +kernel
theorem dX7_allDifferIn_23 : decode cX7_allDifferIn 23 = .ok (.getfield 9, 3) := by decide +kernel
theorem dX7_allDifferIn_26 : decode cX7_allDifferIn 26 = .ok (.iload_n 2, 1) := by decide +kernel
theorem dX7_allDifferIn_27 : decode cX7_allDifferIn 27 = .ok (.iaload, 1) := by decide +kernel
theorem dX7_allDifferIn_28 : decode cX7_allDifferIn 28 = .ok (.aload_n 0, 1) := by decide +kernel
theorem dX7_allDifferIn_29 : decode cX7_allDifferIn 29 = .ok (.getfield 9, 3) := by decide +kernel
theorem dX7_allDifferIn_32 : decode cX7_allDifferIn 32 = .ok (.iload_n 3, 1) := by decide +kernel
theorem dX7_allDifferIn_33 : decode cX7_allDifferIn 33 = .ok (.iaload, 1) := by decide +kernel
theorem dX7_allDifferIn_34 : decode cX7_allDifferIn 34 = .ok (.ixor, 1) := by decide +kernel
theorem dX7_allDifferIn_35 : decode cX7_allDifferIn 35 = .ok (.iload_n 1, 1) := by decide +kernel
theorem dX7_allDifferIn_36 : decode cX7_allDifferIn 36 = .ok (.iand, 1) := by decide +kernel
theorem dX7_allDifferIn_37 : decode cX7_allDifferIn 37 = .ok (.ifCond .ne 5, 3) := by decide +kernel
theorem dX7_allDifferIn_40 : decode cX7_allDifferIn 40 = .ok (.iconst 0, 1) := by decide +kernel
theorem dX7_allDifferIn_41 : decode cX7_allDifferIn 41 = .ok (.ireturn, 1) := by decide +kernel
theorem dX7_allDifferIn_42 : decode cX7_allDifferIn 42 = .ok (.iinc 3 1, 3) := by decide +kernel
theorem dX7_allDifferIn_45 : decode cX7_allDifferIn 45 = .ok (.goto (-31), 3) := by decide +kernel
theorem dX7_allDifferIn_48 : decode cX7_allDifferIn 48 = .ok (.iinc 2 1, 3) := by decide +kernel
theorem dX7_allDifferIn_51 : decode cX7_allDifferIn 51 = .ok (.goto (-49), 3) := by decide +kernel
theorem dX7_allDifferIn_54 : decode cX7_allDifferIn 54 = .ok (.iconst 1, 1) := by decide +kernel
theorem dX7_allDifferIn_55 : decode cX7_allDifferIn 55 = .ok (.ireturn, 1) := by decide +kernel
def fX7_allDifferIn_L14 (x1 : Int32) (x2 : Int32) (M : zM) : Nat → Int32 → Option (Int32 ⊕ Unit)
  | 0, _ => none
  | n + 1, x3 => if (M.1 5 3) ≤ x3 then (
    some (.inr ()))
    else (
    if zin x2 8 then (
    if zin x3 8 then (
    if (((M.1 6 x2.toNatClampNeg) ^^^ (M.1 6 x3.toNatClampNeg)) &&& x1) = 0 then (
    some (.inl 0))
    else (
    fX7_allDifferIn_L14 x1 x2 M n (x3 + 1))) else none) else none)
def fX7_allDifferIn_L2 (x1 : Int32) (M : zM) : Nat → Int32 → Option (Int32 ⊕ Unit)
  | 0, _ => none
  | n + 1, x2 => if (M.1 5 3) ≤ x2 then (
    some (.inr ()))
    else (
    zlet (x2 + 1) fun (x3_13 : Int32) =>
    (fX7_allDifferIn_L14 x1 x2 M 4000 x3_13).bind fun q => zs q (fun r => some (.inl r))
    (fun (_ : Unit) =>
    fX7_allDifferIn_L2 x1 M n (x2 + 1)))
def fX7_allDifferIn (x1 : Int32) (M : zM) : Option Int32 := (fX7_allDifferIn_L2 x1 M 4000 0).bind fun q => zs q (fun r => some r)
  (fun (_ : Unit) =>
  some 1)
set_option maxHeartbeats 4000000 in
theorem lX7_allDifferIn_14 {E : zE} {Γ : zT} {d : Nat} {K1 : (Int32 ⊕ Unit) → Prop} (hC : Cx E Γ RX7 cX7_allDifferIn 4 d) {post : Int32 → zM → Prop} (hr : zRi E Γ (some .boolean) post) (hd : 0 ≤ d) (x1 : Int32) (x2 : Int32) (M : zM) (hret : ∀ r : Int32, K1 (.inl r) → post r M) (hx : ∀ (_ : Unit), K1 (.inr ()) → G E Γ 4 48 [(0, .ref 5), (1, .int x1), (2, .int x2)] [] M) :
    ∀ (n : Nat) (x3 : Int32), wpO (fX7_allDifferIn_L14 x1 x2 M n x3) K1 → G E Γ 4 14 [(0, .ref 5), (1, .int x1), (2, .int x2), (3, .int x3)] [] M := by
  intro n
  induction n with
  | zero =>
    intro x3 h
    exact (wpO_0 h).elim
  | succ n ih =>
    intro x3 h
    rw [fX7_allDifferIn_L14.eq_2] at h
    refine g_iload_n (i := 3) (x := x3) hC (dX7_allDifferIn_14) rfl rfl ?_
    refine g_aload_n (i := 0) (x := 5) hC (dX7_allDifferIn_15) rfl rfl ?_
    refine g_getI hC flX7_21 (dX7_allDifferIn_16) rfl rfl ?_
    refine g_icmp_ge (tgt := 48) hC (dX7_allDifferIn_19) (by decide) (fun c19 => ?_) (fun c19 => ?_)
    · have h := wpO_t c19 h
      refine g_sub (lv' := [(0, .ref 5), (1, .int x1), (2, .int x2)]) [0, 1, 2] rfl ?_
      exact hx () (wpO_s h)
    · have h := wpO_f c19 h
      refine g_aload_n (i := 0) (x := 5) hC (dX7_allDifferIn_22) rfl rfl ?_
      refine g_getR (r := 6) hC flX7_9 (dX7_allDifferIn_23) rfl rfl rfl ?_
      refine g_iload_n (i := 2) (x := x2) hC (dX7_allDifferIn_26) rfl rfl ?_
      obtain ⟨q1, h⟩ := wpO_g h
      refine g_iaload (n := 8) hC (dX7_allDifferIn_27) rfl q1 ?_
      refine g_aload_n (i := 0) (x := 5) hC (dX7_allDifferIn_28) rfl rfl ?_
      refine g_getR (r := 6) hC flX7_9 (dX7_allDifferIn_29) rfl rfl rfl ?_
      refine g_iload_n (i := 3) (x := x3) hC (dX7_allDifferIn_32) rfl rfl ?_
      obtain ⟨q2, h⟩ := wpO_g h
      refine g_iaload (n := 8) hC (dX7_allDifferIn_33) rfl q2 ?_
      refine g_ixor hC (dX7_allDifferIn_34) ?_
      refine g_iload_n (i := 1) (x := x1) hC (dX7_allDifferIn_35) rfl rfl ?_
      refine g_iand hC (dX7_allDifferIn_36) ?_
      refine g_if_ne (tgt := 42) hC (dX7_allDifferIn_37) (by decide) (fun c37 => ?_) (fun c37 => ?_)
      · have h := wpO_f c37 h
        refine g_iinc (x := x3) (v := (x3 + 1)) (lv2 := [(3, .int (x3 + 1)), (0, .ref 5), (1, .int x1), (2, .int x2)]) hC (dX7_allDifferIn_42) rfl rfl (by decide) rfl ?_
        refine g_goto (tgt := 14) hC (dX7_allDifferIn_45) (by decide) ?_
        refine g_sub (lv' := [(0, .ref 5), (1, .int x1), (2, .int x2), (3, .int (x3 + 1))]) [1, 2, 3, 0] rfl ?_
        exact ih _ h
      · have h := wpO_t c37 h
        refine g_iconst (v := 0) hC (dX7_allDifferIn_40) kc_0 ?_
        refine g_zreturn hC hr (dX7_allDifferIn_41) (Or.inl rfl) ?_
        exact hret _ (wpO_s h)
set_option maxHeartbeats 4000000 in
theorem lX7_allDifferIn_2 {E : zE} {Γ : zT} {d : Nat} {K1 : (Int32 ⊕ Unit) → Prop} (hC : Cx E Γ RX7 cX7_allDifferIn 4 d) {post : Int32 → zM → Prop} (hr : zRi E Γ (some .boolean) post) (hd : 0 ≤ d) (x1 : Int32) (M : zM) (hret : ∀ r : Int32, K1 (.inl r) → post r M) (hx : ∀ (_ : Unit), K1 (.inr ()) → G E Γ 4 54 [] [] M) :
    ∀ (n : Nat) (x2 : Int32), wpO (fX7_allDifferIn_L2 x1 M n x2) K1 → G E Γ 4 2 [(0, .ref 5), (1, .int x1), (2, .int x2)] [] M := by
  intro n
  induction n with
  | zero =>
    intro x2 h
    exact (wpO_0 h).elim
  | succ n ih =>
    intro x2 h
    rw [fX7_allDifferIn_L2.eq_2] at h
    refine g_iload_n (i := 2) (x := x2) hC (dX7_allDifferIn_2) rfl rfl ?_
    refine g_aload_n (i := 0) (x := 5) hC (dX7_allDifferIn_3) rfl rfl ?_
    refine g_getI hC flX7_21 (dX7_allDifferIn_4) rfl rfl ?_
    refine g_icmp_ge (tgt := 54) hC (dX7_allDifferIn_7) (by decide) (fun c7 => ?_) (fun c7 => ?_)
    · have h := wpO_t c7 h
      refine g_sub (lv' := []) [] rfl ?_
      exact hx () (wpO_s h)
    · have h := wpO_f c7 h
      refine g_iload_n (i := 2) (x := x2) hC (dX7_allDifferIn_10) rfl rfl ?_
      refine g_iconst (v := 1) hC (dX7_allDifferIn_11) kc_1 ?_
      refine g_iadd hC (dX7_allDifferIn_12) ?_
      refine g_nmi (fun x3_13 e_x3_13 => ?_)
      have h := wpO_n e_x3_13 h
      refine g_istore_n (i := 3) (lv2 := [(3, .int x3_13), (0, .ref 5), (1, .int x1), (2, .int x2)]) hC (dX7_allDifferIn_13) rfl (by decide) rfl ?_
      refine g_sub (lv' := [(0, .ref 5), (1, .int x1), (2, .int x2), (3, .int x3_13)]) [1, 2, 3, 0] rfl ?_
      refine wpO_bJ h (fun KL14 hKL14 h => ?_)
      refine lX7_allDifferIn_14 (K1 := KL14) hC hr (by omega) x1 x2 M (fun r h => ?_) (fun _ h => ?_) _ _ h
      · have h := wpO_i (hKL14 _ h)
        exact hret _ (wpO_s h)
      · have h := wpO_r (hKL14 _ h)
        refine g_iinc (x := x2) (v := (x2 + 1)) (lv2 := [(2, .int (x2 + 1)), (0, .ref 5), (1, .int x1)]) hC (dX7_allDifferIn_48) rfl rfl (by decide) rfl ?_
        refine g_goto (tgt := 2) hC (dX7_allDifferIn_51) (by decide) ?_
        refine g_sub (lv' := [(0, .ref 5), (1, .int x1), (2, .int (x2 + 1))]) [1, 2, 0] rfl ?_
        exact ih _ h
set_option maxHeartbeats 4000000 in
theorem cX7_allDifferIn_ok {E : zE} {d : Nat} (hd : 0 ≤ d) (x1 : Int32) (M : zM) {K : Int32 → Prop} (h : wpO (fX7_allDifferIn x1 M) K) : CMi E d yX7_allDifferIn cX7_allDifferIn 4 (some .boolean) [.ref 5, .int x1] M (fun r N => M = N ∧ K r) := by
  refine CMi.of (by decide) (Nat.le_of_ble_eq_true rfl) (fun Γ hC hr => ?_)
  have hC : Cx E Γ RX7 cX7_allDifferIn 4 d := hC
  show G E Γ 4 0 [(0, .ref 5), (1, .int x1)] [] M
  unfold fX7_allDifferIn at h
  refine g_iconst (v := 0) hC (dX7_allDifferIn_0) kc_0 ?_
  refine g_istore_n (i := 2) (lv2 := [(2, .int 0), (0, .ref 5), (1, .int x1)]) hC (dX7_allDifferIn_1) rfl (by decide) rfl ?_
  refine g_sub (lv' := [(0, .ref 5), (1, .int x1), (2, .int 0)]) [1, 2, 0] rfl ?_
  refine wpO_bJ h (fun KL2 hKL2 h => ?_)
  refine lX7_allDifferIn_2 (K1 := KL2) hC hr (by omega) x1 M (fun r h => ?_) (fun _ h => ?_) _ _ h
  · have h := wpO_i (hKL2 _ h)
    exact ⟨rfl, wpO_s h⟩
  · have h := wpO_r (hKL2 _ h)
    refine g_iconst (v := 1) hC (dX7_allDifferIn_54) kc_1 ?_
    refine g_zreturn hC hr (dX7_allDifferIn_55) (Or.inr rfl) ?_
    exact ⟨rfl, wpO_s h⟩
/-! LostByState$Survey.clear()V -/
theorem dX8_clear_0 : decode cX8_clear 0 = .ok (.iconst 0, 1) := by decide +kernel
theorem dX8_clear_1 : decode cX8_clear 1 = .ok (.istore_n 1, 1) := by decide +kernel
theorem dX8_clear_2 : decode cX8_clear 2 = .ok (.iload_n 1, 1) := by decide +kernel
theorem dX8_clear_3 : decode cX8_clear 3 = .ok (.sipush 256, 3) := by decide +kernel
theorem dX8_clear_6 : decode cX8_clear 6 = .ok (.if_icmp .ge 16, 3) := by decide +kernel
theorem dX8_clear_9 : decode cX8_clear 9 = .ok (.aload_n 0, 1) := by decide +kernel
theorem dX8_clear_10 : decode cX8_clear 10 = .ok (.getfield 9, 3) := by decide +kernel
theorem dX8_clear_13 : decode cX8_clear 13 = .ok (.iload_n 1, 1) := by decide +kernel
theorem dX8_clear_14 : decode cX8_clear 14 = .ok (.iconst (-1), 1) := by decide +kernel
theorem dX8_clear_15 : decode cX8_clear 15 = .ok (.iastore, 1) := by decide +kernel
theorem dX8_clear_16 : decode cX8_clear 16 = .ok (.iinc 1 1, 3) := by decide +kernel
theorem dX8_clear_19 : decode cX8_clear 19 = .ok (.goto (-17), 3) := by decide +kernel
theorem dX8_clear_22 : decode cX8_clear 22 = .ok (.return_, 1) := by decide +kernel
def fX8_clear_L2 : Nat → Int32 → zM → Option zM
  | 0, _, _ => none
  | n + 1, x1, M => if 256 ≤ x1 then (
    some M)
    else (
    if zin x1 256 then (
    zlet (zSI M 31 x1.toNatClampNeg (-1)) fun (M15 : zM) =>
    fX8_clear_L2 n (x1 + 1) M15) else none)
def fX8_clear  (M : zM) : Option zM := (fX8_clear_L2 4000 0 M).bind fun (M_22 : zM) =>
  some M_22
set_option maxHeartbeats 4000000 in
theorem lX8_clear_2 {E : zE} {Γ : zT} {d : Nat} {K1 : zM → Prop} (hC : Cx E Γ RX8 cX8_clear 2 d) (hd : 0 ≤ d) (hx : ∀ (M_22 : zM), K1 M_22 → G E Γ 2 22 [] [] M_22) :
    ∀ (n : Nat) (x1 : Int32) (M : zM), wpO (fX8_clear_L2 n x1 M) K1 → G E Γ 2 2 [(0, .ref 30), (1, .int x1)] [] M := by
  intro n
  induction n with
  | zero =>
    intro x1 M h
    exact (wpO_0 h).elim
  | succ n ih =>
    intro x1 M h
    rw [fX8_clear_L2.eq_2] at h
    refine g_iload_n (i := 1) (x := x1) hC (dX8_clear_2) rfl rfl ?_
    refine g_sipush (v := 256) hC (dX8_clear_3) ks_256 ?_
    refine g_icmp_ge (tgt := 22) hC (dX8_clear_6) (by decide) (fun c6 => ?_) (fun c6 => ?_)
    · have h := wpO_t c6 h
      refine g_sub (lv' := []) [] rfl ?_
      exact hx _ (wpO_s h)
    · have h := wpO_f c6 h
      refine g_aload_n (i := 0) (x := 30) hC (dX8_clear_9) rfl rfl ?_
      refine g_getR (r := 31) hC flX8_9 (dX8_clear_10) rfl rfl rfl ?_
      refine g_iload_n (i := 1) (x := x1) hC (dX8_clear_13) rfl rfl ?_
      refine g_iconst (v := (-1)) hC (dX8_clear_14) kc_m1 ?_
      obtain ⟨q1, h⟩ := wpO_g h
      refine g_iastore (n := 256) hC (dX8_clear_15) rfl q1 ?_
      refine g_nmM (fun M15 e_M15 => ?_)
      have h := wpO_n e_M15 h
      refine g_iinc (x := x1) (v := (x1 + 1)) (lv2 := [(1, .int (x1 + 1)), (0, .ref 30)]) hC (dX8_clear_16) rfl rfl (by decide) rfl ?_
      refine g_goto (tgt := 2) hC (dX8_clear_19) (by decide) ?_
      refine g_sub (lv' := [(0, .ref 30), (1, .int (x1 + 1))]) [1, 0] rfl ?_
      exact ih _ _ h
set_option maxHeartbeats 4000000 in
theorem cX8_clear_ok {E : zE} {d : Nat} (hd : 0 ≤ d)  (M : zM) {K : zM → Prop} (h : wpO (fX8_clear  M) K) : CMv E d yX8_clear cX8_clear 2 (none) [.ref 30] M K := by
  refine CMv.of (by decide) (Nat.le_of_ble_eq_true rfl) (fun Γ hC hr => ?_)
  have hC : Cx E Γ RX8 cX8_clear 2 d := hC
  show G E Γ 2 0 [(0, .ref 30)] [] M
  unfold fX8_clear at h
  refine g_iconst (v := 0) hC (dX8_clear_0) kc_0 ?_
  refine g_istore_n (i := 1) (lv2 := [(1, .int 0), (0, .ref 30)]) hC (dX8_clear_1) rfl (by decide) rfl ?_
  refine g_sub (lv' := [(0, .ref 30), (1, .int 0)]) [1, 0] rfl ?_
  refine wpO_bJ h (fun KL2 hKL2 h => ?_)
  refine lX8_clear_2 (K1 := KL2) hC (by omega)  (fun M_22 h => ?_) _ _ _ h
  have h := hKL2 _ h
  refine g_vreturn hC hr (dX8_clear_22) ?_
  exact wpO_s h
/-! LostByState$Survey.weigh(LLostByState$Rule;IIII)V -/
theorem dX8_weigh_0 : decode cX8_weigh 0 = .ok (.iload_n 2, 1) := by decide +kernel
theorem dX8_weigh_1 : decode cX8_weigh 1 = .ok (.invokestatic 21, 3) := by decide +kernel
theorem dX8_weigh_4 : decode cX8_weigh 4 = .ok (.istore 6, 2) := by decide +kernel
theorem dX8_weigh_6 : decode cX8_weigh 6 = .ok (.iconst 0, 1) := by decide +kernel
theorem dX8_weigh_7 : decode cX8_weigh 7 = .ok (.istore 7, 2) := by decide +kernel
theorem dX8_weigh_9 : decode cX8_weigh 9 = .ok (.iload 7, 2) := by decide +kernel
theorem dX8_weigh_11 : decode cX8_weigh 11 = .ok (.iload 6, 2) := by decide +kernel
theorem dX8_weigh_13 : decode cX8_weigh 13 = .ok (.if_icmp .gt 59, 3) := by decide +kernel
theorem dX8_weigh_16 : decode cX8_weigh 16 = .ok (.iconst 0, 1) := by decide +kernel
theorem dX8_weigh_17 : decode cX8_weigh 17 = .ok (.istore 8, 2) := by decide +kernel
theorem dX8_weigh_19 : decode cX8_weigh 19 = .ok (.iload 8, 2) := by decide +kernel
theorem dX8_weigh_21 : decode cX8_weigh 21 = .ok (.bipush 8, 2) := by decide +kernel
theorem dX8_weigh_23 : decode cX8_weigh 23 = .ok (.iload 6, 2) := by decide +kernel
theorem dX8_weigh_25 : decode cX8_weigh 25 = .ok (.isub, 1) := by decide +kernel
theorem dX8_weigh_26 : decode cX8_weigh 26 = .ok (.if_icmp .gt 40, 3) := by decide +kernel
theorem dX8_weigh_29 : decode cX8_weigh 29 = .ok (.aload_n 0, 1) := by decide +kernel
theorem dX8_weigh_30 : decode cX8_weigh 30 = .ok (.getfield 18, 3) := by decide +kernel
theorem dX8_weigh_33 : decode cX8_weigh 33 = .ok (.iload 7, 2) := by decide +kernel
theorem dX8_weigh_35 : decode cX8_weigh 35 = .ok (.bipush 9, 2) := by decide +kernel
theorem dX8_weigh_37 : decode cX8_weigh 37 = .ok (.imul, 1) := by decide +kernel
theorem dX8_weigh_38 : decode cX8_weigh 38 = .ok (.iload 8, 2) := by decide +kernel
theorem dX8_weigh_40 : decode cX8_weigh 40 = .ok (.iadd, 1) := by decide +kernel
theorem dX8_weigh_41 : decode cX8_weigh 41 = .ok (.aload_n 1, 1) := by decide +kernel
theorem dX8_weigh_42 : decode cX8_weigh 42 = .ok (.iload 7, 2) := by decide +kernel
theorem dX8_weigh_44 : decode cX8_weigh 44 = .ok (.iload 8, 2) := by decide +kernel
theorem dX8_weigh_46 : decode cX8_weigh 46 = .ok (.iload 6, 2) := by decide +kernel
theorem dX8_weigh_48 : decode cX8_weigh 48 = .ok (.iload 7, 2) := by decide +kernel
theorem dX8_weigh_50 : decode cX8_weigh 50 = .ok (.isub, 1) := by decide +kernel
theorem dX8_weigh_51 : decode cX8_weigh 51 = .ok (.iload_n 3, 1) := by decide +kernel
theorem dX8_weigh_52 : decode cX8_weigh 52 = .ok (.iload 4, 2) := by decide +kernel
theorem dX8_weigh_54 : decode cX8_weigh 54 = .ok (.iload 5, 2) := by decide +kernel
theorem dX8_weigh_56 : decode cX8_weigh 56 = .ok (.invokevirtual 27, 3) := by decide +kernel
theorem dX8_weigh_59 : decode cX8_weigh 59 = .ok (.iastore, 1) := by decide +kernel
theorem dX8_weigh_60 : decode cX8_weigh 60 = .ok (.iinc 8 1, 3) := by decide +kernel
theorem dX8_weigh_63 : decode cX8_weigh 63 = .ok (.goto (-44), 3) := by decide +kernel
theorem dX8_weigh_66 : decode cX8_weigh 66 = .ok (.iinc 7 1, 3) := by decide +kernel
theorem dX8_weigh_69 : decode cX8_weigh 69 = .ok (.goto (-60), 3) := by decide +kernel
theorem dX8_weigh_72 : decode cX8_weigh 72 = .ok (.return_, 1) := by decide +kernel
def fX8_weigh_L19 (x1 : Nat) (x3 : Int32) (x4 : Int32) (x5 : Int32) (x6 : Int32) (x7 : Int32) : Nat → Int32 → zM → Option zM
  | 0, _, _ => none
  | n + 1, x8, M => if (8 - x6) < x8 then (
    some M)
    else (
    if zSH x1 = .inl 4 then (
    (fX4_valueOf x1 x7 x8 (x6 - x7) x3 x4 x5 M).bind fun (q : Int32 × zM) => zp q fun r3 M56 =>
    if zin ((x7 * 9) + x8) 81 then (
    zlet (zSI M56 33 ((x7 * 9) + x8).toNatClampNeg r3) fun (M59 : zM) =>
    fX8_weigh_L19 x1 x3 x4 x5 x6 x7 n (x8 + 1) M59) else none) else none)
def fX8_weigh_L9 (x1 : Nat) (x3 : Int32) (x4 : Int32) (x5 : Int32) (x6 : Int32) : Nat → Int32 → zM → Option zM
  | 0, _, _ => none
  | n + 1, x7, M => if x6 < x7 then (
    some M)
    else (
    (fX8_weigh_L19 x1 x3 x4 x5 x6 x7 4000 0 M).bind fun (M_66 : zM) =>
    fX8_weigh_L9 x1 x3 x4 x5 x6 n (x7 + 1) M_66)
def fX8_weigh (x1 : Nat) (x2 : Int32) (x3 : Int32) (x4 : Int32) (x5 : Int32) (M : zM) : Option zM := zlet (fJ6_bitCount_0f7a4 x2) fun (x6_4 : Int32) =>
  (fX8_weigh_L9 x1 x3 x4 x5 x6_4 4000 0 M).bind fun (M_72 : zM) =>
  some M_72
set_option maxHeartbeats 4000000 in
theorem lX8_weigh_19 {E : zE} {Γ : zT} {d : Nat} {K1 : zM → Prop} (hC : Cx E Γ RX8 cX8_weigh 9 d) (hd : 2 ≤ d) (x1 : Nat) (x3 : Int32) (x4 : Int32) (x5 : Int32) (x6 : Int32) (x7 : Int32) (hx : ∀ (M_66 : zM), K1 M_66 → G E Γ 9 66 [(0, .ref 30), (1, .ref x1), (3, .int x3), (4, .int x4), (5, .int x5), (6, .int x6), (7, .int x7)] [] M_66) :
    ∀ (n : Nat) (x8 : Int32) (M : zM), wpO (fX8_weigh_L19 x1 x3 x4 x5 x6 x7 n x8 M) K1 → G E Γ 9 19 [(0, .ref 30), (1, .ref x1), (3, .int x3), (4, .int x4), (5, .int x5), (6, .int x6), (7, .int x7), (8, .int x8)] [] M := by
  intro n
  induction n with
  | zero =>
    intro x8 M h
    exact (wpO_0 h).elim
  | succ n ih =>
    intro x8 M h
    rw [fX8_weigh_L19.eq_2] at h
    refine g_iload (i := 8) (x := x8) hC (dX8_weigh_19) rfl ?_
    refine g_bipush (v := 8) hC (dX8_weigh_21) kb_8 ?_
    refine g_iload (i := 6) (x := x6) hC (dX8_weigh_23) rfl ?_
    refine g_isub hC (dX8_weigh_25) ?_
    refine g_icmp_gt (tgt := 66) hC (dX8_weigh_26) (by decide) (fun c26 => ?_) (fun c26 => ?_)
    · have h := wpO_t c26 h
      refine g_sub (lv' := [(0, .ref 30), (1, .ref x1), (3, .int x3), (4, .int x4), (5, .int x5), (6, .int x6), (7, .int x7)]) [0, 1, 2, 3, 4, 5, 6] rfl ?_
      exact hx _ (wpO_s h)
    · have h := wpO_f c26 h
      refine g_aload_n (i := 0) (x := 30) hC (dX8_weigh_29) rfl rfl ?_
      refine g_getR (r := 33) hC flX8_18 (dX8_weigh_30) rfl rfl rfl ?_
      refine g_iload (i := 7) (x := x7) hC (dX8_weigh_33) rfl ?_
      refine g_bipush (v := 9) hC (dX8_weigh_35) kb_9 ?_
      refine g_imul hC (dX8_weigh_37) ?_
      refine g_iload (i := 8) (x := x8) hC (dX8_weigh_38) rfl ?_
      refine g_iadd hC (dX8_weigh_40) ?_
      refine g_aload_n (i := 1) (x := x1) hC (dX8_weigh_41) rfl rfl ?_
      refine g_iload (i := 7) (x := x7) hC (dX8_weigh_42) rfl ?_
      refine g_iload (i := 8) (x := x8) hC (dX8_weigh_44) rfl ?_
      refine g_iload (i := 6) (x := x6) hC (dX8_weigh_46) rfl ?_
      refine g_iload (i := 7) (x := x7) hC (dX8_weigh_48) rfl ?_
      refine g_isub hC (dX8_weigh_50) ?_
      refine g_iload_n (i := 3) (x := x3) hC (dX8_weigh_51) rfl rfl ?_
      refine g_iload (i := 4) (x := x4) hC (dX8_weigh_52) rfl ?_
      refine g_iload (i := 5) (x := x5) hC (dX8_weigh_54) rfl ?_
      obtain ⟨q2, h⟩ := wpO_g h
      have h := wpO_b h
      refine g_callVi ([.int x7, .int x8, .int (x6 - x7), .int x3, .int x4, .int x5]) hC wvX8_27 (dX8_weigh_56) q2 rfl (by omega) (Nat.le_of_ble_eq_true rfl) (cX4_valueOf_ok (by omega) x1 x7 x8 (x6 - x7) x3 x4 x5 M h) (fun r3 M56 h => ?_)
      have h := wpO_p h
      obtain ⟨q4, h⟩ := wpO_g h
      refine g_iastore (n := 81) hC (dX8_weigh_59) rfl q4 ?_
      refine g_nmM (fun M59 e_M59 => ?_)
      have h := wpO_n e_M59 h
      refine g_iinc (x := x8) (v := (x8 + 1)) (lv2 := [(8, .int (x8 + 1)), (0, .ref 30), (1, .ref x1), (3, .int x3), (4, .int x4), (5, .int x5), (6, .int x6), (7, .int x7)]) hC (dX8_weigh_60) rfl rfl (by decide) rfl ?_
      refine g_goto (tgt := 19) hC (dX8_weigh_63) (by decide) ?_
      refine g_sub (lv' := [(0, .ref 30), (1, .ref x1), (3, .int x3), (4, .int x4), (5, .int x5), (6, .int x6), (7, .int x7), (8, .int (x8 + 1))]) [1, 2, 3, 4, 5, 6, 7, 0] rfl ?_
      exact ih _ _ h
set_option maxHeartbeats 4000000 in
theorem lX8_weigh_9 {E : zE} {Γ : zT} {d : Nat} {K1 : zM → Prop} (hC : Cx E Γ RX8 cX8_weigh 9 d) (hd : 2 ≤ d) (x1 : Nat) (x3 : Int32) (x4 : Int32) (x5 : Int32) (x6 : Int32) (hx : ∀ (M_72 : zM), K1 M_72 → G E Γ 9 72 [] [] M_72) :
    ∀ (n : Nat) (x7 : Int32) (M : zM), wpO (fX8_weigh_L9 x1 x3 x4 x5 x6 n x7 M) K1 → G E Γ 9 9 [(0, .ref 30), (1, .ref x1), (3, .int x3), (4, .int x4), (5, .int x5), (6, .int x6), (7, .int x7)] [] M := by
  intro n
  induction n with
  | zero =>
    intro x7 M h
    exact (wpO_0 h).elim
  | succ n ih =>
    intro x7 M h
    rw [fX8_weigh_L9.eq_2] at h
    refine g_iload (i := 7) (x := x7) hC (dX8_weigh_9) rfl ?_
    refine g_iload (i := 6) (x := x6) hC (dX8_weigh_11) rfl ?_
    refine g_icmp_gt (tgt := 72) hC (dX8_weigh_13) (by decide) (fun c13 => ?_) (fun c13 => ?_)
    · have h := wpO_t c13 h
      refine g_sub (lv' := []) [] rfl ?_
      exact hx _ (wpO_s h)
    · have h := wpO_f c13 h
      refine g_iconst (v := 0) hC (dX8_weigh_16) kc_0 ?_
      refine g_istore (i := 8) (lv2 := [(8, .int 0), (0, .ref 30), (1, .ref x1), (3, .int x3), (4, .int x4), (5, .int x5), (6, .int x6), (7, .int x7)]) hC (dX8_weigh_17) (by decide) rfl ?_
      refine g_sub (lv' := [(0, .ref 30), (1, .ref x1), (3, .int x3), (4, .int x4), (5, .int x5), (6, .int x6), (7, .int x7), (8, .int 0)]) [1, 2, 3, 4, 5, 6, 7, 0] rfl ?_
      refine wpO_bJ h (fun KL19 hKL19 h => ?_)
      refine lX8_weigh_19 (K1 := KL19) hC (by omega) x1 x3 x4 x5 x6 x7 (fun M_66 h => ?_) _ _ _ h
      have h := hKL19 _ h
      refine g_iinc (x := x7) (v := (x7 + 1)) (lv2 := [(7, .int (x7 + 1)), (0, .ref 30), (1, .ref x1), (3, .int x3), (4, .int x4), (5, .int x5), (6, .int x6)]) hC (dX8_weigh_66) rfl rfl (by decide) rfl ?_
      refine g_goto (tgt := 9) hC (dX8_weigh_69) (by decide) ?_
      refine g_sub (lv' := [(0, .ref 30), (1, .ref x1), (3, .int x3), (4, .int x4), (5, .int x5), (6, .int x6), (7, .int (x7 + 1))]) [1, 2, 3, 4, 5, 6, 0] rfl ?_
      exact ih _ _ h
set_option maxHeartbeats 4000000 in
theorem cX8_weigh_ok {E : zE} {d : Nat} (hd : 2 ≤ d) (x1 : Nat) (x2 : Int32) (x3 : Int32) (x4 : Int32) (x5 : Int32) (M : zM) {K : zM → Prop} (h : wpO (fX8_weigh x1 x2 x3 x4 x5 M) K) : CMv E d yX8_weigh cX8_weigh 9 (none) [.ref 30, .ref x1, .int x2, .int x3, .int x4, .int x5] M K := by
  refine CMv.of (by decide) (Nat.le_of_ble_eq_true rfl) (fun Γ hC hr => ?_)
  have hC : Cx E Γ RX8 cX8_weigh 9 d := hC
  show G E Γ 9 0 [(0, .ref 30), (1, .ref x1), (2, .int x2), (3, .int x3), (4, .int x4), (5, .int x5)] [] M
  unfold fX8_weigh at h
  refine g_iload_n (i := 2) (x := x2) hC (dX8_weigh_0) rfl rfl ?_
  refine g_callSi ([.int x2]) hC wsX8_21 (dX8_weigh_1) rfl (by omega) (Nat.le_of_ble_eq_true rfl) (cJ6_bitCount_0f7a4_ok (by omega) x2 M (K := fun r => r = fJ6_bitCount_0f7a4 x2) rfl) (fun r N q => ?_)
  obtain ⟨rfl, rfl⟩ := q
  refine g_nmi (fun x6_4 e_x6_4 => ?_)
  have h := wpO_n e_x6_4 h
  refine g_istore (i := 6) (lv2 := [(6, .int x6_4), (0, .ref 30), (1, .ref x1), (2, .int x2), (3, .int x3), (4, .int x4), (5, .int x5)]) hC (dX8_weigh_4) (by decide) rfl ?_
  refine g_iconst (v := 0) hC (dX8_weigh_6) kc_0 ?_
  refine g_istore (i := 7) (lv2 := [(7, .int 0), (6, .int x6_4), (0, .ref 30), (1, .ref x1), (2, .int x2), (3, .int x3), (4, .int x4), (5, .int x5)]) hC (dX8_weigh_7) (by decide) rfl ?_
  refine g_sub (lv' := [(0, .ref 30), (1, .ref x1), (3, .int x3), (4, .int x4), (5, .int x5), (6, .int x6_4), (7, .int 0)]) [2, 3, 5, 6, 7, 1, 0] rfl ?_
  refine wpO_bJ h (fun KL9 hKL9 h => ?_)
  refine lX8_weigh_9 (K1 := KL9) hC (by omega) x1 x3 x4 x5 x6_4 (fun M_72 h => ?_) _ _ _ h
  have h := hKL9 _ h
  refine g_vreturn hC hr (dX8_weigh_72) ?_
  exact wpO_s h
/-! LostByState$Survey.offer(III)V -/
theorem dX8_offer_0 : decode cX8_offer 0 = .ok (.iconst 0, 1) := by decide +kernel
theorem dX8_offer_1 : decode cX8_offer 1 = .ok (.istore 4, 2) := by decide +kernel
theorem dX8_offer_3 : decode cX8_offer 3 = .ok (.iload 4, 2) := by decide +kernel
theorem dX8_offer_5 : decode cX8_offer 5 = .ok (.sipush 256, 3) := by decide +kernel
theorem dX8_offer_8 : decode cX8_offer 8 = .ok (.if_icmp .ge 84, 3) := by decide +kernel
theorem dX8_offer_11 : decode cX8_offer 11 = .ok (.iload 4, 2) := by decide +kernel
theorem dX8_offer_13 : decode cX8_offer 13 = .ok (.iload_n 2, 1) := by decide +kernel
theorem dX8_offer_14 : decode cX8_offer 14 = .ok (.iand, 1) := by decide +kernel
theorem dX8_offer_15 : decode cX8_offer 15 = .ok (.invokestatic 21, 3) := by decide +kernel
theorem dX8_offer_18 : decode cX8_offer 18 = .ok (.istore 5, 2) := by decide +kernel
theorem dX8_offer_20 : decode cX8_offer 20 = .ok (.aload_n 0, 1) := by decide +kernel
theorem dX8_offer_21 : decode cX8_offer 21 = .ok (.getfield 18, 3) := by decide +kernel
theorem dX8_offer_24 : decode cX8_offer 24 = .ok (.iload 5, 2) := by decide +kernel
theorem dX8_offer_26 : decode cX8_offer 26 = .ok (.bipush 9, 2) := by decide +kernel
theorem dX8_offer_28 : decode cX8_offer 28 = .ok (.imul, 1) := by decide +kernel
theorem dX8_offer_29 : decode cX8_offer 29 = .ok (.iload 4, 2) := by decide +kernel
theorem dX8_offer_31 : decode cX8_offer 31 = .ok (.invokestatic 21, 3) := by decide +kernel
theorem dX8_offer_34 : decode cX8_offer 34 = .ok (.iadd, 1) := by decide +kernel
theorem dX8_offer_35 : decode cX8_offer 35 = .ok (.iload 5, 2) := by decide +kernel
theorem dX8_offer_37 : decode cX8_offer 37 = .ok (.isub, 1) := by decide +kernel
theorem dX8_offer_38 : decode cX8_offer 38 = .ok (.iaload, 1) := by decide +kernel
theorem dX8_offer_39 : decode cX8_offer 39 = .ok (.istore 6, 2) := by decide +kernel
theorem dX8_offer_41 : decode cX8_offer 41 = .ok (.iload 6, 2) := by decide +kernel
theorem dX8_offer_43 : decode cX8_offer 43 = .ok (.iload_n 3, 1) := by decide +kernel
theorem dX8_offer_44 : decode cX8_offer 44 = .ok (.if_icmp .lt 42, 3) := by decide +kernel
theorem dX8_offer_47 : decode cX8_offer 47 = .ok (.aload_n 0, 1) := by decide +kernel
theorem dX8_offer_48 : decode cX8_offer 48 = .ok (.getfield 9, 3) := by decide +kernel
theorem dX8_offer_51 : decode cX8_offer 51 = .ok (.iload 4, 2) := by decide +kernel
theorem dX8_offer_53 : decode cX8_offer 53 = .ok (.iaload, 1) := by decide +kernel
theorem dX8_offer_54 : decode cX8_offer 54 = .ok (.ifCond .lt 15, 3) := by decide +kernel
theorem dX8_offer_57 : decode cX8_offer 57 = .ok (.iload 6, 2) := by decide +kernel
theorem dX8_offer_59 : decode cX8_offer 59 = .ok (.aload_n 0, 1) := by decide +kernel
theorem dX8_offer_60 : decode cX8_offer 60 = .ok (.getfield 15, 3) := by decide +kernel
theorem dX8_offer_63 : decode cX8_offer 63 = .ok (.iload 4, 2) := by decide +kernel
theorem dX8_offer_65 : decode cX8_offer 65 = .ok (.iaload, 1) := by decide +kernel
theorem dX8_offer_66 : decode cX8_offer 66 = .ok (.if_icmp .le 20, 3) := by decide +kernel
theorem dX8_offer_69 : decode cX8_offer 69 = .ok (.aload_n 0, 1) := by decide +kernel
theorem dX8_offer_70 : decode cX8_offer 70 = .ok (.getfield 9, 3) := by decide +kernel
theorem dX8_offer_73 : decode cX8_offer 73 = .ok (.iload 4, 2) := by decide +kernel
theorem dX8_offer_75 : decode cX8_offer 75 = .ok (.iload_n 1, 1) := by decide +kernel
theorem dX8_offer_76 : decode cX8_offer 76 = .ok (.iastore, 1) := by decide +kernel
theorem dX8_offer_77 : decode cX8_offer 77 = .ok (.aload_n 0, 1) := by decide +kernel
theorem dX8_offer_78 : decode cX8_offer 78 = .ok (.getfield 15, 3) := by decide +kernel
theorem dX8_offer_81 : decode cX8_offer 81 = .ok (.iload 4, 2) := by decide +kernel
theorem dX8_offer_83 : decode cX8_offer 83 = .ok (.iload 6, 2) := by decide +kernel
theorem dX8_offer_85 : decode cX8_offer 85 = .ok (.iastore, 1) := by decide +kernel
theorem dX8_offer_86 : decode cX8_offer 86 = .ok (.iinc 4 1, 3) := by decide +kernel
theorem dX8_offer_89 : decode cX8_offer 89 = .ok (.goto (-86), 3) := by decide +kernel
theorem dX8_offer_92 : decode cX8_offer 92 = .ok (.return_, 1) := by decide +kernel
def fX8_offer_L3 (x1 : Int32) (x2 : Int32) (x3 : Int32) : Nat → Int32 → zM → Option zM
  | 0, _, _ => none
  | n + 1, x4, M => if 256 ≤ x4 then (
    some M)
    else (
    zlet (fJ6_bitCount_0f7a4 (x4 &&& x2)) fun (x5_18 : Int32) =>
    if zin (((x5_18 * 9) + (fJ6_bitCount_0f7a4 x4)) - x5_18) 81 then (
    zlet (M.1 33 (((x5_18 * 9) + (fJ6_bitCount_0f7a4 x4)) - x5_18).toNatClampNeg) fun (x6_39 : Int32) =>
    (if x6_39 < x3 then (
    some M)
    else (
    if zin x4 256 then (
    zj (fun (_ : Unit) =>
    zlet (zSI M 31 x4.toNatClampNeg x1) fun (M76 : zM) =>
    zlet (zSI M76 32 x4.toNatClampNeg x6_39) fun (M85 : zM) =>
    some M85)
    fun J6 =>
    if (M.1 31 x4.toNatClampNeg) < 0 then (
    J6 ())
    else (
    if x6_39 ≤ (M.1 32 x4.toNatClampNeg) then (
    some M)
    else (
    J6 ()))) else none) : Option zM).bind fun (M_86 : zM) =>
    fX8_offer_L3 x1 x2 x3 n (x4 + 1) M_86) else none)
def fX8_offer (x1 : Int32) (x2 : Int32) (x3 : Int32) (M : zM) : Option zM := (fX8_offer_L3 x1 x2 x3 4000 0 M).bind fun (M_92 : zM) =>
  some M_92
set_option maxHeartbeats 4000000 in
theorem lX8_offer_3 {E : zE} {Γ : zT} {d : Nat} {K1 : zM → Prop} (hC : Cx E Γ RX8 cX8_offer 7 d) (hd : 1 ≤ d) (x1 : Int32) (x2 : Int32) (x3 : Int32) (hx : ∀ (M_92 : zM), K1 M_92 → G E Γ 7 92 [] [] M_92) :
    ∀ (n : Nat) (x4 : Int32) (M : zM), wpO (fX8_offer_L3 x1 x2 x3 n x4 M) K1 → G E Γ 7 3 [(0, .ref 30), (1, .int x1), (2, .int x2), (3, .int x3), (4, .int x4)] [] M := by
  intro n
  induction n with
  | zero =>
    intro x4 M h
    exact (wpO_0 h).elim
  | succ n ih =>
    intro x4 M h
    rw [fX8_offer_L3.eq_2] at h
    refine g_iload (i := 4) (x := x4) hC (dX8_offer_3) rfl ?_
    refine g_sipush (v := 256) hC (dX8_offer_5) ks_256 ?_
    refine g_icmp_ge (tgt := 92) hC (dX8_offer_8) (by decide) (fun c8 => ?_) (fun c8 => ?_)
    · have h := wpO_t c8 h
      refine g_sub (lv' := []) [] rfl ?_
      exact hx _ (wpO_s h)
    · have h := wpO_f c8 h
      refine g_iload (i := 4) (x := x4) hC (dX8_offer_11) rfl ?_
      refine g_iload_n (i := 2) (x := x2) hC (dX8_offer_13) rfl rfl ?_
      refine g_iand hC (dX8_offer_14) ?_
      refine g_callSi ([.int (x4 &&& x2)]) hC wsX8_21 (dX8_offer_15) rfl (by omega) (Nat.le_of_ble_eq_true rfl) (cJ6_bitCount_0f7a4_ok (by omega) (x4 &&& x2) M (K := fun r => r = fJ6_bitCount_0f7a4 (x4 &&& x2)) rfl) (fun r N q => ?_)
      obtain ⟨rfl, rfl⟩ := q
      refine g_nmi (fun x5_18 e_x5_18 => ?_)
      have h := wpO_n e_x5_18 h
      refine g_istore (i := 5) (lv2 := [(5, .int x5_18), (0, .ref 30), (1, .int x1), (2, .int x2), (3, .int x3), (4, .int x4)]) hC (dX8_offer_18) (by decide) rfl ?_
      refine g_aload_n (i := 0) (x := 30) hC (dX8_offer_20) rfl rfl ?_
      refine g_getR (r := 33) hC flX8_18 (dX8_offer_21) rfl rfl rfl ?_
      refine g_iload (i := 5) (x := x5_18) hC (dX8_offer_24) rfl ?_
      refine g_bipush (v := 9) hC (dX8_offer_26) kb_9 ?_
      refine g_imul hC (dX8_offer_28) ?_
      refine g_iload (i := 4) (x := x4) hC (dX8_offer_29) rfl ?_
      refine g_callSi ([.int x4]) hC wsX8_21 (dX8_offer_31) rfl (by omega) (Nat.le_of_ble_eq_true rfl) (cJ6_bitCount_0f7a4_ok (by omega) x4 M (K := fun r => r = fJ6_bitCount_0f7a4 x4) rfl) (fun r N q => ?_)
      obtain ⟨rfl, rfl⟩ := q
      refine g_iadd hC (dX8_offer_34) ?_
      refine g_iload (i := 5) (x := x5_18) hC (dX8_offer_35) rfl ?_
      refine g_isub hC (dX8_offer_37) ?_
      obtain ⟨q3, h⟩ := wpO_g h
      refine g_iaload (n := 81) hC (dX8_offer_38) rfl q3 ?_
      refine g_nmi (fun x6_39 e_x6_39 => ?_)
      have h := wpO_n e_x6_39 h
      refine g_istore (i := 6) (lv2 := [(6, .int x6_39), (5, .int x5_18), (0, .ref 30), (1, .int x1), (2, .int x2), (3, .int x3), (4, .int x4)]) hC (dX8_offer_39) (by decide) rfl ?_
      refine g_iload (i := 6) (x := x6_39) hC (dX8_offer_41) rfl ?_
      refine g_iload_n (i := 3) (x := x3) hC (dX8_offer_43) rfl rfl ?_
      refine wpO_bJ h (fun KJ4 hKJ4 h => ?_)
      have hJ4 : ∀ (M_86 : zM), KJ4 M_86 → G E Γ 7 86 [(0, .ref 30), (1, .int x1), (2, .int x2), (3, .int x3), (4, .int x4)] [] M_86 := by
        intro M_86 h
        have h := hKJ4 _ h
        refine g_iinc (x := x4) (v := (x4 + 1)) (lv2 := [(4, .int (x4 + 1)), (0, .ref 30), (1, .int x1), (2, .int x2), (3, .int x3)]) hC (dX8_offer_86) rfl rfl (by decide) rfl ?_
        refine g_goto (tgt := 3) hC (dX8_offer_89) (by decide) ?_
        refine g_sub (lv' := [(0, .ref 30), (1, .int x1), (2, .int x2), (3, .int x3), (4, .int (x4 + 1))]) [1, 2, 3, 4, 0] rfl ?_
        exact ih _ _ h
      refine g_icmp_lt (tgt := 86) hC (dX8_offer_44) (by decide) (fun c44 => ?_) (fun c44 => ?_)
      · have h := wpO_t c44 h
        refine g_sub (lv' := [(0, .ref 30), (1, .int x1), (2, .int x2), (3, .int x3), (4, .int x4)]) [2, 3, 4, 5, 6] rfl ?_
        exact hJ4 _ (wpO_s h)
      · have h := wpO_f c44 h
        refine g_aload_n (i := 0) (x := 30) hC (dX8_offer_47) rfl rfl ?_
        refine g_getR (r := 31) hC flX8_9 (dX8_offer_48) rfl rfl rfl ?_
        refine g_iload (i := 4) (x := x4) hC (dX8_offer_51) rfl ?_
        obtain ⟨q5, h⟩ := wpO_g h
        refine g_iaload (n := 256) hC (dX8_offer_53) rfl q5 ?_
        refine wpO_j h (fun J6 hkJ6 h => ?_)
        have hJ6 : ∀ (_ : Unit), wpO (J6 ()) KJ4 → G E Γ 7 69 [(0, .ref 30), (1, .int x1), (2, .int x2), (3, .int x3), (4, .int x4), (6, .int x6_39)] [] M := by
          intro _ h
          have h := hkJ6 _ h
          refine g_aload_n (i := 0) (x := 30) hC (dX8_offer_69) rfl rfl ?_
          refine g_getR (r := 31) hC flX8_9 (dX8_offer_70) rfl rfl rfl ?_
          refine g_iload (i := 4) (x := x4) hC (dX8_offer_73) rfl ?_
          refine g_iload_n (i := 1) (x := x1) hC (dX8_offer_75) rfl rfl ?_
          refine g_iastore (n := 256) hC (dX8_offer_76) rfl q5 ?_
          refine g_nmM (fun M76 e_M76 => ?_)
          have h := wpO_n e_M76 h
          refine g_aload_n (i := 0) (x := 30) hC (dX8_offer_77) rfl rfl ?_
          refine g_getR (r := 32) hC flX8_15 (dX8_offer_78) rfl rfl rfl ?_
          refine g_iload (i := 4) (x := x4) hC (dX8_offer_81) rfl ?_
          refine g_iload (i := 6) (x := x6_39) hC (dX8_offer_83) rfl ?_
          refine g_iastore (n := 256) hC (dX8_offer_85) rfl q5 ?_
          refine g_nmM (fun M85 e_M85 => ?_)
          have h := wpO_n e_M85 h
          refine g_sub (lv' := [(0, .ref 30), (1, .int x1), (2, .int x2), (3, .int x3), (4, .int x4)]) [0, 1, 2, 3, 4] rfl ?_
          exact hJ4 _ (wpO_s h)
        refine g_if_lt (tgt := 69) hC (dX8_offer_54) (by decide) (fun c54 => ?_) (fun c54 => ?_)
        · have h := wpO_t c54 h
          refine g_sub (lv' := [(0, .ref 30), (1, .int x1), (2, .int x2), (3, .int x3), (4, .int x4), (6, .int x6_39)]) [2, 3, 4, 5, 6, 0] rfl ?_
          exact hJ6 () h
        · have h := wpO_f c54 h
          refine g_iload (i := 6) (x := x6_39) hC (dX8_offer_57) rfl ?_
          refine g_aload_n (i := 0) (x := 30) hC (dX8_offer_59) rfl rfl ?_
          refine g_getR (r := 32) hC flX8_15 (dX8_offer_60) rfl rfl rfl ?_
          refine g_iload (i := 4) (x := x4) hC (dX8_offer_63) rfl ?_
          refine g_iaload (n := 256) hC (dX8_offer_65) rfl q5 ?_
          refine g_icmp_le (tgt := 86) hC (dX8_offer_66) (by decide) (fun c66 => ?_) (fun c66 => ?_)
          · have h := wpO_t c66 h
            refine g_sub (lv' := [(0, .ref 30), (1, .int x1), (2, .int x2), (3, .int x3), (4, .int x4)]) [2, 3, 4, 5, 6] rfl ?_
            exact hJ4 _ (wpO_s h)
          · have h := wpO_f c66 h
            refine g_sub (lv' := [(0, .ref 30), (1, .int x1), (2, .int x2), (3, .int x3), (4, .int x4), (6, .int x6_39)]) [2, 3, 4, 5, 6, 0] rfl ?_
            exact hJ6 () h
set_option maxHeartbeats 4000000 in
theorem cX8_offer_ok {E : zE} {d : Nat} (hd : 1 ≤ d) (x1 : Int32) (x2 : Int32) (x3 : Int32) (M : zM) {K : zM → Prop} (h : wpO (fX8_offer x1 x2 x3 M) K) : CMv E d yX8_offer cX8_offer 7 (none) [.ref 30, .int x1, .int x2, .int x3] M K := by
  refine CMv.of (by decide) (Nat.le_of_ble_eq_true rfl) (fun Γ hC hr => ?_)
  have hC : Cx E Γ RX8 cX8_offer 7 d := hC
  show G E Γ 7 0 [(0, .ref 30), (1, .int x1), (2, .int x2), (3, .int x3)] [] M
  unfold fX8_offer at h
  refine g_iconst (v := 0) hC (dX8_offer_0) kc_0 ?_
  refine g_istore (i := 4) (lv2 := [(4, .int 0), (0, .ref 30), (1, .int x1), (2, .int x2), (3, .int x3)]) hC (dX8_offer_1) (by decide) rfl ?_
  refine g_sub (lv' := [(0, .ref 30), (1, .int x1), (2, .int x2), (3, .int x3), (4, .int 0)]) [1, 2, 3, 4, 0] rfl ?_
  refine wpO_bJ h (fun KL3 hKL3 h => ?_)
  refine lX8_offer_3 (K1 := KL3) hC (by omega) x1 x2 x3 (fun M_92 h => ?_) _ _ _ h
  have h := hKL3 _ h
  refine g_vreturn hC hr (dX8_offer_92) ?_
  exact wpO_s h
/-! LostByState$Survey.howManyGet(I)I -/
theorem dX8_howManyGet_0 : decode cX8_howManyGet 0 = .ok (.iconst 0, 1) := by decide +kernel
theorem dX8_howManyGet_1 : decode cX8_howManyGet 1 = .ok (.istore_n 2, 1) := by decide +kernel
theorem dX8_howManyGet_2 : decode cX8_howManyGet 2 = .ok (.iconst 0, 1) := by decide +kernel
theorem dX8_howManyGet_3 : decode cX8_howManyGet 3 = .ok (.istore_n 3, 1) := by decide +kernel
theorem dX8_howManyGet_4 : decode cX8_howManyGet 4 = .ok (.iload_n 3, 1) := by decide +kernel
theorem dX8_howManyGet_5 : decode cX8_howManyGet 5 = .ok (.sipush 256, 3) := by decide +kernel
theorem dX8_howManyGet_8 : decode cX8_howManyGet 8 = .ok (.if_icmp .ge 22, 3) := by decide +kernel
theorem dX8_howManyGet_11 : decode cX8_howManyGet 11 = .ok (.aload_n 0, 1) := by decide +kernel
theorem dX8_howManyGet_12 : decode cX8_howManyGet 12 = .ok (.getfield 9, 3) := by decide +kernel
theorem dX8_howManyGet_15 : decode cX8_howManyGet 15 = .ok (.iload_n 3, 1) := by decide +kernel
theorem dX8_howManyGet_16 : decode cX8_howManyGet 16 = .ok (.iaload, 1) := by decide +kernel
theorem dX8_howManyGet_17 : decode cX8_howManyGet 17 = .ok (.iload_n 1, 1) := by decide +kernel
theorem dX8_howManyGet_18 : decode cX8_howManyGet 18 = .ok (.if_icmp .ne 6, 3) := by decide +kernel
theorem dX8_howManyGet_21 : decode cX8_howManyGet 21 = .ok (.iinc 2 1, 3) := by decide +kernel
theorem dX8_howManyGet_24 : decode cX8_howManyGet 24 = .ok (.iinc 3 1, 3) := by decide +kernel
theorem dX8_howManyGet_27 : decode cX8_howManyGet 27 = .ok (.goto (-23), 3) := by decide +kernel
theorem dX8_howManyGet_30 : decode cX8_howManyGet 30 = .ok (.iload_n 2, 1) := by decide +kernel
theorem dX8_howManyGet_31 : decode cX8_howManyGet 31 = .ok (.ireturn, 1) := by decide +kernel
def fX8_howManyGet_L4 (x1 : Int32) (M : zM) : Nat → Int32 → Int32 → Option Int32
  | 0, _, _ => none
  | n + 1, x2, x3 => if 256 ≤ x3 then (
    some x2)
    else (
    if zin x3 256 then (
    zlet (if (M.1 31 x3.toNatClampNeg) = x1 then (
    (x2 + 1))
    else (
    x2)) fun (x2_24 : Int32) =>
    fX8_howManyGet_L4 x1 M n x2_24 (x3 + 1)) else none)
def fX8_howManyGet (x1 : Int32) (M : zM) : Option Int32 := (fX8_howManyGet_L4 x1 M 4000 0 0).bind fun (x2_30 : Int32) =>
  some x2_30
set_option maxHeartbeats 4000000 in
theorem lX8_howManyGet_4 {E : zE} {Γ : zT} {d : Nat} {K1 : Int32 → Prop} (hC : Cx E Γ RX8 cX8_howManyGet 4 d) (hd : 0 ≤ d) (x1 : Int32) (M : zM) (hx : ∀ (x2_30 : Int32), K1 x2_30 → G E Γ 4 30 [(2, .int x2_30)] [] M) :
    ∀ (n : Nat) (x2 : Int32) (x3 : Int32), wpO (fX8_howManyGet_L4 x1 M n x2 x3) K1 → G E Γ 4 4 [(0, .ref 30), (1, .int x1), (2, .int x2), (3, .int x3)] [] M := by
  intro n
  induction n with
  | zero =>
    intro x2 x3 h
    exact (wpO_0 h).elim
  | succ n ih =>
    intro x2 x3 h
    rw [fX8_howManyGet_L4.eq_2] at h
    refine g_iload_n (i := 3) (x := x3) hC (dX8_howManyGet_4) rfl rfl ?_
    refine g_sipush (v := 256) hC (dX8_howManyGet_5) ks_256 ?_
    refine g_icmp_ge (tgt := 30) hC (dX8_howManyGet_8) (by decide) (fun c8 => ?_) (fun c8 => ?_)
    · have h := wpO_t c8 h
      refine g_sub (lv' := [(2, .int x2)]) [2] rfl ?_
      exact hx _ (wpO_s h)
    · have h := wpO_f c8 h
      refine g_aload_n (i := 0) (x := 30) hC (dX8_howManyGet_11) rfl rfl ?_
      refine g_getR (r := 31) hC flX8_9 (dX8_howManyGet_12) rfl rfl rfl ?_
      refine g_iload_n (i := 3) (x := x3) hC (dX8_howManyGet_15) rfl rfl ?_
      obtain ⟨q1, h⟩ := wpO_g h
      refine g_iaload (n := 256) hC (dX8_howManyGet_16) rfl q1 ?_
      refine g_iload_n (i := 1) (x := x1) hC (dX8_howManyGet_17) rfl rfl ?_
      obtain ⟨x2_24, e_x2_24, h⟩ := wpO_l h
      have hJ2 : G E Γ 4 24 [(0, .ref 30), (1, .int x1), (2, .int x2_24), (3, .int x3)] [] M := by
        refine g_iinc (x := x3) (v := (x3 + 1)) (lv2 := [(3, .int (x3 + 1)), (0, .ref 30), (1, .int x1), (2, .int x2_24)]) hC (dX8_howManyGet_24) rfl rfl (by decide) rfl ?_
        refine g_goto (tgt := 4) hC (dX8_howManyGet_27) (by decide) ?_
        refine g_sub (lv' := [(0, .ref 30), (1, .int x1), (2, .int x2_24), (3, .int (x3 + 1))]) [1, 2, 3, 0] rfl ?_
        exact ih _ _ h
      refine g_icmp_ne (tgt := 24) hC (dX8_howManyGet_18) (by decide) (fun c18 => ?_) (fun c18 => ?_)
      · rw [if_neg c18] at e_x2_24
        subst e_x2_24
        exact hJ2
      · rw [if_pos c18] at e_x2_24
        refine g_iinc (x := x2) (v := (x2 + 1)) (lv2 := [(2, .int (x2 + 1)), (0, .ref 30), (1, .int x1), (3, .int x3)]) hC (dX8_howManyGet_21) rfl rfl (by decide) rfl ?_
        refine g_sub (lv' := [(0, .ref 30), (1, .int x1), (2, .int (x2 + 1)), (3, .int x3)]) [1, 2, 0, 3] rfl ?_
        subst e_x2_24
        exact hJ2
set_option maxHeartbeats 4000000 in
theorem cX8_howManyGet_ok {E : zE} {d : Nat} (hd : 0 ≤ d) (x1 : Int32) (M : zM) {K : Int32 → Prop} (h : wpO (fX8_howManyGet x1 M) K) : CMi E d yX8_howManyGet cX8_howManyGet 4 (some .int) [.ref 30, .int x1] M (fun r N => M = N ∧ K r) := by
  refine CMi.of (by decide) (Nat.le_of_ble_eq_true rfl) (fun Γ hC hr => ?_)
  have hC : Cx E Γ RX8 cX8_howManyGet 4 d := hC
  show G E Γ 4 0 [(0, .ref 30), (1, .int x1)] [] M
  unfold fX8_howManyGet at h
  refine g_iconst (v := 0) hC (dX8_howManyGet_0) kc_0 ?_
  refine g_istore_n (i := 2) (lv2 := [(2, .int 0), (0, .ref 30), (1, .int x1)]) hC (dX8_howManyGet_1) rfl (by decide) rfl ?_
  refine g_iconst (v := 0) hC (dX8_howManyGet_2) kc_0 ?_
  refine g_istore_n (i := 3) (lv2 := [(3, .int 0), (2, .int 0), (0, .ref 30), (1, .int x1)]) hC (dX8_howManyGet_3) rfl (by decide) rfl ?_
  refine g_sub (lv' := [(0, .ref 30), (1, .int x1), (2, .int 0), (3, .int 0)]) [2, 3, 1, 0] rfl ?_
  refine wpO_bJ h (fun KL4 hKL4 h => ?_)
  refine lX8_howManyGet_4 (K1 := KL4) hC (by omega) x1 M (fun x2_30 h => ?_) _ _ _ h
  have h := hKL4 _ h
  refine g_iload_n (i := 2) (x := x2_30) hC (dX8_howManyGet_30) rfl rfl ?_
  refine g_ireturn hC hr (dX8_howManyGet_31) ?_
  exact ⟨rfl, wpO_s h⟩
/-! LostByState$Text.hasRoomForFour()Z -/
theorem dX9_hasRoomForFour_0 : decode cX9_hasRoomForFour 0 = .ok (.aload_n 0, 1) := by decide +kernel
theorem dX9_hasRoomForFour_1 : decode cX9_hasRoomForFour 1 = .ok (.getfield 15, 3) := by decide +kernel
theorem dX9_hasRoomForFour_4 : decode cX9_hasRoomForFour 4 = .ok (.iconst 4, 1) := by decide +kernel
theorem dX9_hasRoomForFour_5 : decode cX9_hasRoomForFour 5 = .ok (.iadd, 1) := by decide +kernel
theorem dX9_hasRoomForFour_6 : decode cX9_hasRoomForFour 6 = .ok (.aload_n 0, 1) := by decide +kernel
theorem dX9_hasRoomForFour_7 : decode cX9_hasRoomForFour 7 = .ok (.getfield 9, 3) := by decide +kernel
theorem dX9_hasRoomForFour_10 : decode cX9_hasRoomForFour 10 = .ok (.arraylength, 1) := by decide +kernel
theorem dX9_hasRoomForFour_11 : decode cX9_hasRoomForFour 11 = .ok (.if_icmp .gt 7, 3) := by decide +kernel
theorem dX9_hasRoomForFour_14 : decode cX9_hasRoomForFour 14 = .ok (.iconst 1, 1) := by decide +kernel
theorem dX9_hasRoomForFour_15 : decode cX9_hasRoomForFour 15 = .ok (.goto 4, 3) := by decide +kernel
theorem dX9_hasRoomForFour_18 : decode cX9_hasRoomForFour 18 = .ok (.iconst 0, 1) := by decide +kernel
theorem dX9_hasRoomForFour_19 : decode cX9_hasRoomForFour 19 = .ok (.ireturn, 1) := by decide +kernel
def fX9_hasRoomForFour  (M : zM) : Int32 := if 80 < ((M.1 1 1) + 4) then (
  0)
  else (
  1)
theorem bX9_hasRoomForFour  (M : zM) : fX9_hasRoomForFour  M = 0 ∨ fX9_hasRoomForFour  M = 1 := by
  unfold fX9_hasRoomForFour
  try simp only [zlet, zp, zj]
  repeat' split
  all_goals first | exact Or.inl rfl | exact Or.inr rfl | (simp; done)
set_option maxHeartbeats 4000000 in
theorem cX9_hasRoomForFour_ok {E : zE} {d : Nat} (hd : 0 ≤ d)  (M : zM) {K : Int32 → Prop} (h : wpI (fX9_hasRoomForFour  M) K) : CMi E d yX9_hasRoomForFour cX9_hasRoomForFour 1 (some .boolean) [.ref 1] M (fun r N => M = N ∧ K r) := by
  refine CMi.of (by decide) (Nat.le_of_ble_eq_true rfl) (fun Γ hC hr => ?_)
  have hC : Cx E Γ RX9 cX9_hasRoomForFour 1 d := hC
  show G E Γ 1 0 [(0, .ref 1)] [] M
  unfold fX9_hasRoomForFour at h
  refine g_aload_n (i := 0) (x := 1) hC (dX9_hasRoomForFour_0) rfl rfl ?_
  refine g_getI hC flX9_15 (dX9_hasRoomForFour_1) rfl rfl ?_
  refine g_iconst (v := 4) hC (dX9_hasRoomForFour_4) kc_4 ?_
  refine g_iadd hC (dX9_hasRoomForFour_5) ?_
  refine g_aload_n (i := 0) (x := 1) hC (dX9_hasRoomForFour_6) rfl rfl ?_
  refine g_getR (r := 2) hC flX9_9 (dX9_hasRoomForFour_7) rfl rfl rfl ?_
  refine g_alen (ek := 0) (n := 80) (v := 80) hC (dX9_hasRoomForFour_10) rfl (by decide) rfl ?_
  refine g_icmp_gt (tgt := 18) hC (dX9_hasRoomForFour_11) (by decide) (fun c11 => ?_) (fun c11 => ?_)
  · have h := wpI_t c11 h
    refine g_iconst (v := 0) hC (dX9_hasRoomForFour_18) kc_0 ?_
    refine g_zreturn hC hr (dX9_hasRoomForFour_19) (Or.inl rfl) ?_
    exact ⟨rfl, wpI_s h⟩
  · have h := wpI_f c11 h
    refine g_iconst (v := 1) hC (dX9_hasRoomForFour_14) kc_1 ?_
    refine g_goto (tgt := 19) hC (dX9_hasRoomForFour_15) (by decide) ?_
    refine g_zreturn hC hr (dX9_hasRoomForFour_19) (Or.inr rfl) ?_
    exact ⟨rfl, wpI_s h⟩
/-! LostByState$Text.append(I)I -/
theorem dX9_append_0 : decode cX9_append 0 = .ok (.bipush 24, 2) := by decide +kernel
theorem dX9_append_2 : decode cX9_append 2 = .ok (.istore_n 2, 1) := by decide +kernel
theorem dX9_append_3 : decode cX9_append 3 = .ok (.iload_n 2, 1) := by decide +kernel
theorem dX9_append_4 : decode cX9_append 4 = .ok (.ifCond .lt 47, 3) := by decide +kernel
theorem dX9_append_7 : decode cX9_append 7 = .ok (.aload_n 0, 1) := by decide +kernel
theorem dX9_append_8 : decode cX9_append 8 = .ok (.getfield 15, 3) := by decide +kernel
theorem dX9_append_11 : decode cX9_append 11 = .ok (.aload_n 0, 1) := by decide +kernel
theorem dX9_append_12 : decode cX9_append 12 = .ok (.getfield 9, 3) := by decide +kernel
theorem dX9_append_15 : decode cX9_append 15 = .ok (.arraylength, 1) := by decide +kernel
theorem dX9_append_16 : decode cX9_append 16 = .ok (.if_icmp .ge 35, 3) := by decide +kernel
theorem dX9_append_19 : decode cX9_append 19 = .ok (.aload_n 0, 1) := by decide +kernel
theorem dX9_append_20 : decode cX9_append 20 = .ok (.getfield 9, 3) := by decide +kernel
theorem dX9_append_23 : decode cX9_append 23 = .ok (.aload_n 0, 1) := by decide +kernel
theorem dX9_append_24 : decode cX9_append 24 = .ok (.getfield 15, 3) := by decide +kernel
theorem dX9_append_27 : decode cX9_append 27 = .ok (.iload_n 1, 1) := by decide +kernel
theorem dX9_append_28 : decode cX9_append 28 = .ok (.iload_n 2, 1) := by decide +kernel
theorem dX9_append_29 : decode cX9_append 29 = .ok (.iushr, 1) := by decide +kernel
theorem dX9_append_30 : decode cX9_append 30 = .ok (.sipush 255, 3) := by decide +kernel
theorem dX9_append_33 : decode cX9_append 33 = .ok (.iand, 1) := by decide +kernel
theorem dX9_append_34 : decode cX9_append 34 = .ok (.iastore, 1) := by decide +kernel
theorem dX9_append_35 : decode cX9_append 35 = .ok (.aload_n 0, 1) := by decide +kernel
theorem dX9_append_36 : decode cX9_append 36 = .ok (.dup, 1) := by decide +kernel
theorem dX9_append_37 : decode cX9_append 37 = .ok (.getfield 15, 3) := by decide +kernel
theorem dX9_append_40 : decode cX9_append 40 = .ok (.iconst 1, 1) := by decide +kernel
theorem dX9_append_41 : decode cX9_append 41 = .ok (.iadd, 1) := by decide +kernel
theorem dX9_append_42 : decode cX9_append 42 = .ok (.putfield 15, 3) := by decide +kernel
theorem dX9_append_45 : decode cX9_append 45 = .ok (.iinc 2 (-8), 3) := by decide +kernel
theorem dX9_append_48 : decode cX9_append 48 = .ok (.goto (-45), 3) := by decide +kernel
theorem dX9_append_51 : decode cX9_append 51 = .ok (.aload_n 0, 1) := by decide +kernel
theorem dX9_append_52 : decode cX9_append 52 = .ok (.getfield 15, 3) := by decide +kernel
theorem dX9_append_55 : decode cX9_append 55 = .ok (.ireturn, 1) := by decide +kernel
def fX9_append_L3 (x1 : Int32) : Nat → Int32 → zM → Option zM
  | 0, _, _ => none
  | n + 1, x2, M => if x2 < 0 then (
    some M)
    else (
    if 80 ≤ (M.1 1 1) then (
    some M)
    else (
    if zin (M.1 1 1) 80 then (
    zlet (zSI M 2 (M.1 1 1).toNatClampNeg ((zushr x1 x2) &&& 255)) fun (M34 : zM) =>
    zlet (zSI M34 1 1 ((M34.1 1 1) + 1)) fun (M42 : zM) =>
    fX9_append_L3 x1 n (x2 + (-8)) M42) else none))
def fX9_append (x1 : Int32) (M : zM) : Option (Int32 × zM) := (fX9_append_L3 x1 4000 24 M).bind fun (M_51 : zM) =>
  some (M_51.1 1 1, M_51)
set_option maxHeartbeats 4000000 in
theorem lX9_append_3 {E : zE} {Γ : zT} {d : Nat} {K1 : zM → Prop} (hC : Cx E Γ RX9 cX9_append 3 d) (hd : 0 ≤ d) (x1 : Int32) (hx : ∀ (M_51 : zM), K1 M_51 → G E Γ 3 51 [(0, .ref 1)] [] M_51) :
    ∀ (n : Nat) (x2 : Int32) (M : zM), wpO (fX9_append_L3 x1 n x2 M) K1 → G E Γ 3 3 [(0, .ref 1), (1, .int x1), (2, .int x2)] [] M := by
  intro n
  induction n with
  | zero =>
    intro x2 M h
    exact (wpO_0 h).elim
  | succ n ih =>
    intro x2 M h
    rw [fX9_append_L3.eq_2] at h
    refine g_iload_n (i := 2) (x := x2) hC (dX9_append_3) rfl rfl ?_
    refine g_if_lt (tgt := 51) hC (dX9_append_4) (by decide) (fun c4 => ?_) (fun c4 => ?_)
    · have h := wpO_t c4 h
      refine g_sub (lv' := [(0, .ref 1)]) [0] rfl ?_
      exact hx _ (wpO_s h)
    · have h := wpO_f c4 h
      refine g_aload_n (i := 0) (x := 1) hC (dX9_append_7) rfl rfl ?_
      refine g_getI hC flX9_15 (dX9_append_8) rfl rfl ?_
      refine g_aload_n (i := 0) (x := 1) hC (dX9_append_11) rfl rfl ?_
      refine g_getR (r := 2) hC flX9_9 (dX9_append_12) rfl rfl rfl ?_
      refine g_alen (ek := 0) (n := 80) (v := 80) hC (dX9_append_15) rfl (by decide) rfl ?_
      refine g_icmp_ge (tgt := 51) hC (dX9_append_16) (by decide) (fun c16 => ?_) (fun c16 => ?_)
      · have h := wpO_t c16 h
        refine g_sub (lv' := [(0, .ref 1)]) [0] rfl ?_
        exact hx _ (wpO_s h)
      · have h := wpO_f c16 h
        refine g_aload_n (i := 0) (x := 1) hC (dX9_append_19) rfl rfl ?_
        refine g_getR (r := 2) hC flX9_9 (dX9_append_20) rfl rfl rfl ?_
        refine g_aload_n (i := 0) (x := 1) hC (dX9_append_23) rfl rfl ?_
        refine g_getI hC flX9_15 (dX9_append_24) rfl rfl ?_
        refine g_iload_n (i := 1) (x := x1) hC (dX9_append_27) rfl rfl ?_
        refine g_iload_n (i := 2) (x := x2) hC (dX9_append_28) rfl rfl ?_
        refine g_iushr hC (dX9_append_29) ?_
        refine g_sipush (v := 255) hC (dX9_append_30) ks_255 ?_
        refine g_iand hC (dX9_append_33) ?_
        obtain ⟨q1, h⟩ := wpO_g h
        refine g_iastore (n := 80) hC (dX9_append_34) rfl q1 ?_
        refine g_nmM (fun M34 e_M34 => ?_)
        have h := wpO_n e_M34 h
        refine g_aload_n (i := 0) (x := 1) hC (dX9_append_35) rfl rfl ?_
        refine g_dup hC (dX9_append_36) rfl ?_
        refine g_getI hC flX9_15 (dX9_append_37) rfl rfl ?_
        refine g_iconst (v := 1) hC (dX9_append_40) kc_1 ?_
        refine g_iadd hC (dX9_append_41) ?_
        refine g_putI hC fpX9_15 (dX9_append_42) rfl rfl rfl rfl ?_
        refine g_nmM (fun M42 e_M42 => ?_)
        have h := wpO_n e_M42 h
        refine g_iinc (x := x2) (v := (x2 + (-8))) (lv2 := [(2, .int (x2 + (-8))), (0, .ref 1), (1, .int x1)]) hC (dX9_append_45) rfl rfl (by decide) rfl ?_
        refine g_goto (tgt := 3) hC (dX9_append_48) (by decide) ?_
        refine g_sub (lv' := [(0, .ref 1), (1, .int x1), (2, .int (x2 + (-8)))]) [1, 2, 0] rfl ?_
        exact ih _ _ h
set_option maxHeartbeats 4000000 in
theorem cX9_append_ok {E : zE} {d : Nat} (hd : 0 ≤ d) (x1 : Int32) (M : zM) {K : (Int32 × zM) → Prop} (h : wpO (fX9_append x1 M) K) : CMi E d yX9_append cX9_append 3 (some .int) [.ref 1, .int x1] M (fun r N => K (r, N)) := by
  refine CMi.of (by decide) (Nat.le_of_ble_eq_true rfl) (fun Γ hC hr => ?_)
  have hC : Cx E Γ RX9 cX9_append 3 d := hC
  show G E Γ 3 0 [(0, .ref 1), (1, .int x1)] [] M
  unfold fX9_append at h
  refine g_bipush (v := 24) hC (dX9_append_0) kb_24 ?_
  refine g_istore_n (i := 2) (lv2 := [(2, .int 24), (0, .ref 1), (1, .int x1)]) hC (dX9_append_2) rfl (by decide) rfl ?_
  refine g_sub (lv' := [(0, .ref 1), (1, .int x1), (2, .int 24)]) [1, 2, 0] rfl ?_
  refine wpO_bJ h (fun KL3 hKL3 h => ?_)
  refine lX9_append_3 (K1 := KL3) hC (by omega) x1 (fun M_51 h => ?_) _ _ _ h
  have h := hKL3 _ h
  refine g_aload_n (i := 0) (x := 1) hC (dX9_append_51) rfl rfl ?_
  refine g_getI hC flX9_15 (dX9_append_52) rfl rfl ?_
  refine g_ireturn hC hr (dX9_append_55) ?_
  exact wpO_s h
/-! LostByState$Text.cutTo(I)Z -/
theorem dX9_cutTo_0 : decode cX9_cutTo 0 = .ok (.iload_n 1, 1) := by decide +kernel
theorem dX9_cutTo_1 : decode cX9_cutTo 1 = .ok (.ifCond .lt 11, 3) := by decide +kernel
theorem dX9_cutTo_4 : decode cX9_cutTo 4 = .ok (.iload_n 1, 1) := by decide +kernel
theorem dX9_cutTo_5 : decode cX9_cutTo 5 = .ok (.aload_n 0, 1) := by decide +kernel
theorem dX9_cutTo_6 : decode cX9_cutTo 6 = .ok (.getfield 15, 3) := by decide +kernel
theorem dX9_cutTo_9 : decode cX9_cutTo 9 = .ok (.if_icmp .le 5, 3) := by decide +kernel
theorem dX9_cutTo_12 : decode cX9_cutTo 12 = .ok (.iconst 0, 1) := by decide +kernel
theorem dX9_cutTo_13 : decode cX9_cutTo 13 = .ok (.ireturn, 1) := by decide +kernel
theorem dX9_cutTo_14 : decode cX9_cutTo 14 = .ok (.aload_n 0, 1) := by decide +kernel
theorem dX9_cutTo_15 : decode cX9_cutTo 15 = .ok (.iload_n 1, 1) := by decide +kernel
theorem dX9_cutTo_16 : decode cX9_cutTo 16 = .ok (.putfield 15, 3) := by decide +kernel
theorem dX9_cutTo_19 : decode cX9_cutTo 19 = .ok (.iconst 1, 1) := by decide +kernel
theorem dX9_cutTo_20 : decode cX9_cutTo 20 = .ok (.ireturn, 1) := by decide +kernel
def fX9_cutTo (x1 : Int32) (M : zM) : Int32 × zM := if x1 < 0 then (
  (0, M))
  else (
  if x1 ≤ (M.1 1 1) then (
  zlet (zSI M 1 1 x1) fun (M16 : zM) =>
  (1, M16))
  else (
  (0, M)))
theorem bX9_cutTo (x1 : Int32) (M : zM) : (fX9_cutTo x1 M).1 = 0 ∨ (fX9_cutTo x1 M).1 = 1 := by
  unfold fX9_cutTo
  try simp only [zlet, zp, zj]
  repeat' split
  all_goals first | exact Or.inl rfl | exact Or.inr rfl | (simp; done)
set_option maxHeartbeats 4000000 in
theorem cX9_cutTo_ok {E : zE} {d : Nat} (hd : 0 ≤ d) (x1 : Int32) (M : zM) {K : (Int32 × zM) → Prop} (h : wpI (fX9_cutTo x1 M) K) : CMi E d yX9_cutTo cX9_cutTo 2 (some .boolean) [.ref 1, .int x1] M (fun r N => K (r, N)) := by
  refine CMi.of (by decide) (Nat.le_of_ble_eq_true rfl) (fun Γ hC hr => ?_)
  have hC : Cx E Γ RX9 cX9_cutTo 2 d := hC
  show G E Γ 2 0 [(0, .ref 1), (1, .int x1)] [] M
  unfold fX9_cutTo at h
  refine g_iload_n (i := 1) (x := x1) hC (dX9_cutTo_0) rfl rfl ?_
  refine g_if_lt (tgt := 12) hC (dX9_cutTo_1) (by decide) (fun c1 => ?_) (fun c1 => ?_)
  · have h := wpI_t c1 h
    refine g_iconst (v := 0) hC (dX9_cutTo_12) kc_0 ?_
    refine g_zreturn hC hr (dX9_cutTo_13) (Or.inl rfl) ?_
    exact wpI_s h
  · have h := wpI_f c1 h
    refine g_iload_n (i := 1) (x := x1) hC (dX9_cutTo_4) rfl rfl ?_
    refine g_aload_n (i := 0) (x := 1) hC (dX9_cutTo_5) rfl rfl ?_
    refine g_getI hC flX9_15 (dX9_cutTo_6) rfl rfl ?_
    refine g_icmp_le (tgt := 14) hC (dX9_cutTo_9) (by decide) (fun c9 => ?_) (fun c9 => ?_)
    · have h := wpI_t c9 h
      refine g_aload_n (i := 0) (x := 1) hC (dX9_cutTo_14) rfl rfl ?_
      refine g_iload_n (i := 1) (x := x1) hC (dX9_cutTo_15) rfl rfl ?_
      refine g_putI hC fpX9_15 (dX9_cutTo_16) rfl rfl rfl rfl ?_
      refine g_nmM (fun M16 e_M16 => ?_)
      have h := wpI_n e_M16 h
      refine g_iconst (v := 1) hC (dX9_cutTo_19) kc_1 ?_
      refine g_zreturn hC hr (dX9_cutTo_20) (Or.inr rfl) ?_
      exact wpI_s h
    · have h := wpI_f c9 h
      refine g_iconst (v := 0) hC (dX9_cutTo_12) kc_0 ?_
      refine g_zreturn hC hr (dX9_cutTo_13) (Or.inl rfl) ?_
      exact wpI_s h
/-! LostByState$Text.clear()V -/
theorem dX9_clear_0 : decode cX9_clear 0 = .ok (.aload_n 0, 1) := by decide +kernel
theorem dX9_clear_1 : decode cX9_clear 1 = .ok (.iconst 0, 1) := by decide +kernel
theorem dX9_clear_2 : decode cX9_clear 2 = .ok (.putfield 15, 3) := by decide +kernel
theorem dX9_clear_5 : decode cX9_clear 5 = .ok (.return_, 1) := by decide +kernel
def fX9_clear  (M : zM) : zM := zlet (zSI M 1 1 0) fun (M2 : zM) =>
  M2
set_option maxHeartbeats 4000000 in
theorem cX9_clear_ok {E : zE} {d : Nat} (hd : 0 ≤ d)  (M : zM) {K : zM → Prop} (h : wpI (fX9_clear  M) K) : CMv E d yX9_clear cX9_clear 1 (none) [.ref 1] M K := by
  refine CMv.of (by decide) (Nat.le_of_ble_eq_true rfl) (fun Γ hC hr => ?_)
  have hC : Cx E Γ RX9 cX9_clear 1 d := hC
  show G E Γ 1 0 [(0, .ref 1)] [] M
  unfold fX9_clear at h
  refine g_aload_n (i := 0) (x := 1) hC (dX9_clear_0) rfl rfl ?_
  refine g_iconst (v := 0) hC (dX9_clear_1) kc_0 ?_
  refine g_putI hC fpX9_15 (dX9_clear_2) rfl rfl rfl rfl ?_
  refine g_nmM (fun M2 e_M2 => ?_)
  have h := wpI_n e_M2 h
  refine g_vreturn hC hr (dX9_clear_5) ?_
  exact wpI_s h
