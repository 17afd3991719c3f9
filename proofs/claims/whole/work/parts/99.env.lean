/-! what holds when the law begins -/
theorem kt_30 : Cond.code yX11_init cX11_init 2 none ∈ zTb := zTb_t 30 (by decide +kernel) (by decide +kernel)
theorem kt_1 : Cond.initialized RX11 ∈ zTb := zTb_t 1 (by decide +kernel) (by decide +kernel)
theorem kt_29 : Cond.instanceMethod yX11_init ∈ zTb := zTb_t 29 (by decide +kernel) (by decide +kernel)
theorem kt_28 : Cond.methodLink RLw 22 yX11_init ∈ zTb := zTb_t 28 (by decide +kernel) (by decide +kernel)
theorem kwLw_22 : kWd RLw 22 yX11_init cX11_init 2 0 := ⟨kt_30, kt_1, kt_29, ⟨by decide, by decide, by decide +kernel⟩, by decide, Or.inl kt_28⟩
theorem kt_1100 : Cond.code yX12_init cX12_init 1 none ∈ zTb := zTb_t 1100 (by decide +kernel) (by decide +kernel)
theorem kt_14 : Cond.initialized RX12 ∈ zTb := zTb_t 14 (by decide +kernel) (by decide +kernel)
theorem kt_1099 : Cond.instanceMethod yX12_init ∈ zTb := zTb_t 1099 (by decide +kernel) (by decide +kernel)
theorem kt_1098 : Cond.methodLink RLw 25 yX12_init ∈ zTb := zTb_t 1098 (by decide +kernel) (by decide +kernel)
theorem kwLw_25 : kWd RLw 25 yX12_init cX12_init 1 0 := ⟨kt_1100, kt_14, kt_1099, ⟨by decide, by decide, by decide +kernel⟩, by decide, Or.inl kt_1098⟩
theorem kt_26 : Cond.classLink RLw 8 RX11 ∈ zTb := zTb_t 26 (by decide +kernel) (by decide +kernel)
theorem kt_1096 : Cond.classLink RLw 23 RX12 ∈ zTb := zTb_t 1096 (by decide +kernel) (by decide +kernel)
theorem kt_27 : Cond.instantiable RX11 19 ∈ zTb := zTb_t 27 (by decide +kernel) (by decide +kernel)
theorem kt_1097 : Cond.instantiable RX12 41 ∈ zTb := zTb_t 1097 (by decide +kernel) (by decide +kernel)
theorem dS_0 : decode code 0 = .ok (.new 8, 3) := by decide +kernel
theorem dS_3 : decode code 3 = .ok (.dup, 1) := by decide +kernel
theorem dS_4 : decode code 4 = .ok (.invokespecial 22, 3) := by decide +kernel
theorem dS_7 : decode code 7 = .ok (.astore_n 1, 1) := by decide +kernel
theorem dS_8 : decode code 8 = .ok (.new 23, 3) := by decide +kernel
theorem dS_11 : decode code 11 = .ok (.dup, 1) := by decide +kernel
theorem dS_12 : decode code 12 = .ok (.invokespecial 25, 3) := by decide +kernel
theorem dS_15 : decode code 15 = .ok (.astore_n 2, 1) := by decide +kernel
theorem dS_16 : decode code 16 = .ok (.iconst 1, 1) := by decide +kernel
theorem dS_17 : decode code 17 = .ok (.newarray .long, 2) := by decide +kernel
theorem dS_19 : decode code 19 = .ok (.astore_n 3, 1) := by decide +kernel
theorem dS_20 : decode code 20 = .ok (.iconst 0, 1) := by decide +kernel
theorem dS_21 : decode code 21 = .ok (.istore 4, 2) := by decide +kernel
theorem in_lw {w : Cond} (i : Nat) (h : tables_1[i]? = some w) : w ∈ lw_tbl := List.mem_append_right _ (List.mem_of_getElem? h)
theorem in_idx {ws : List Cond} (is : List Nat) (h : ws = is.filterMap (fun i => tables_1[i]?)) : ∀ w ∈ ws, w ∈ lw_tbl := by
  intro w hw
  rw [h] at hw
  obtain ⟨i, -, hi⟩ := List.mem_filterMap.mp hw
  exact in_lw i hi
theorem zNF_in : ∀ w ∈ zNF.map (fun q => Cond.fieldLinkNest q.1 q.2.1 q.2.2.1 q.2.2.2.1 q.2.2.2.2.1 q.2.2.2.2.2), w ∈ lw_tbl := in_idx [42, 43, 44, 45, 59, 61, 75, 77, 79, 81, 83, 102, 104, 106, 108, 110, 112, 138, 165, 202, 204, 206, 208, 225, 227, 229, 244, 263] (by decide +kernel)
theorem zNM_in : ∀ w ∈ zNM.map (fun q => Cond.methodLinkNest q.1 q.2.1 q.2.2.1 q.2.2.2), w ∈ lw_tbl := in_idx [36, 54, 70, 197, 220, 239, 256, 780, 818] (by decide +kernel)
theorem Xof {args : Array Value} {s : State} {tm : Term} {N : Nat} {xs : Nat → Int32} (hN : N < 2 ^ 31) (harr : (Cond.arrayOf tm .int).before args s = true) (hlen : (Term.length tm).eval args s none [] s = some (.int (Int32.ofNat N))) (hel : ∀ j : Nat, j < N → (Term.elem tm (.int (Int32.ofNat j))).eval args s none [] s = some (.int (xs j))) : ∃ t : Nat, tm.eval args s none [] s = some (.ref t) ∧ va_X t N xs s s.heap ∧ t < s.heap.size := by
  obtain ⟨t, ht, cell, hcell, hof, hkn, hle, hsz, hat, -⟩ := va_Tof (A := fun _ => False) hN harr hlen hel (fun _ _ z => z)
  obtain ⟨b, cell2, ht2, harr2, -⟩ := Term.length_spec hlen
  cases ht.symm.trans ht2
  have hlt : cell2.slots.size < 2 ^ 31 := by
    simp only [Term.eval, ht2, harr2, Option.bind_eq_bind, Option.bind_some] at hlen
    by_cases hlt : cell2.slots.size < 2147483648
    · exact hlt
    · simp [hlt] at hlen
  obtain ⟨hc2, -⟩ := State.arrayAt?_spec harr2
  cases Option.some.inj (hcell.symm.trans hc2)
  have hs : cell.slots.size = N := by
    have h1 : (Int32.ofNat cell.slots.size).toNatClampNeg = (Int32.ofNat N).toNatClampNeg := congrArg Int32.toNatClampNeg hsz
    rw [Int32.toNatClampNeg_ofNat_of_lt hlt, Int32.toNatClampNeg_ofNat_of_lt hN] at h1
    exact h1
  exact ⟨t, ht, ⟨cell, hcell, hof, hkn, hs, hat⟩, (Array.getElem?_eq_some_iff.mp hcell).1⟩
theorem fc_plain : ∀ j, j < 9 → Cond.eq (.elem (Term.static "LostByState$Rule" "PLAIN" "[I") (.int (Int32.ofNat j))) (.int (zPlain.getD j 0)) ∈ flatC (Jvm.Cond.and given_1 narrow_1) := by decide +kernel
theorem fc_text : ∀ j, j < 6 → Cond.eq (.elem (Term.field (Term.string "LostByState$RuleReader" 77) "java/lang/String" "value" "[B") (.int (Int32.ofNat j))) (.int (([109, 120, 121, 119, 100, 110] : List Int32).getD j 0)) ∈ flatC (Jvm.Cond.and given_1 narrow_1) := by decide +kernel
def fcL : List Cond := [Cond.arrayOf (Term.static "LostByState$Rule" "PLAIN" "[I") .int, Cond.eq (.length (Term.static "LostByState$Rule" "PLAIN" "[I")) (.int (Int32.ofNat 9)), Cond.eq (.static "java/lang/String" "COMPACT_STRINGS" "Z") (.int 1), Cond.isRef (.static Bundle.tN "UNASSIGNED_STACK" Bundle.steD), Cond.isRef (.static Bundle.tN "SUPPRESSED_SENTINEL" Bundle.listD), Cond.exactly (Term.string "LostByState$RuleReader" 77) "java/lang/String", Cond.eq (.field (Term.string "LostByState$RuleReader" 77) "java/lang/String" "coder" "B") (.int 0), Cond.arrayOf (Term.field (Term.string "LostByState$RuleReader" 77) "java/lang/String" "value" "[B") .byte, Cond.eq (.length (Term.field (Term.string "LostByState$RuleReader" 77) "java/lang/String" "value" "[B")) (.int (Int32.ofNat 6))]
theorem fc_some : ∀ w ∈ fcL, w ∈ flatC (Jvm.Cond.and given_1 narrow_1) := by decide +kernel
theorem fc_str : ∀ q ∈ zTS, Cond.exactly (.string "LostByState" q.1) "java/lang/String" ∈ flatC (Jvm.Cond.and given_1 narrow_1) := by decide +kernel
theorem zTS_in : ∀ w ∈ zTS.map (fun q => Cond.stringRef "LostByState" q.1 q.2), w ∈ lw_tbl := in_idx [1052, 1078, 1086, 1087, 1095] (by decide +kernel)
theorem zDc_in : ∀ w ∈ zDc, w ∈ lw_tbl := in_idx [1017, 1019, 1021] (by decide +kernel)
theorem zLs_in : ∀ w ∈ zLs.map (fun q => Cond.laysStatic Bundle.tN q.1 q.2), w ∈ lw_tbl := in_idx [1040, 1042] (by decide +kernel)
theorem zAd_o (q1 : Nat) (u : (Nat → Nat → Nat) × (Nat → Nat → Nat)) (q2 : Nat) (f : Nat → Nat) (q3 : Nat) (o : Nat → Nat) {k : Nat} (hk : 145 ≤ k) : zAd q1 u q2 f q3 o k = o k := by
  unfold zAd
  rw [if_neg (by omega), if_neg (by omega), if_neg (by omega), if_neg (by omega), if_neg (by omega), if_neg (by omega)]
theorem law_cls {s : State} {args : Array Value} (hz : ∀ w ∈ zTb, w.before args s = true) : ∃ D : va_G, ∀ (c : Nat) (q : vw_C), vwCl[c]? = some q → u_Kn s q.1 q.2.1 q.2.2 (D.1 c) (D.2 c) := by
  have hAll : ∀ w ∈ vwCl, ∃ (cC : ClassId) (iS : Nat → Nat), u_Kn s w.1 w.2.1 w.2.2 cC iS := by
    intro w hw
    simp only [vwCl, List.mem_cons, List.not_mem_nil, or_false] at hw
    rcases hw with rfl | rfl | rfl | rfl | rfl | rfl | rfl | rfl | rfl | rfl | rfl | rfl | rfl
    · exact u_known hz uX0 (hz _ kt_196)
    · exact u_known hz uX1 (hz _ kt_255)
    · exact u_known hz uX2 (hz _ kt_127)
    · exact u_known hz uX3 (hz _ kt_53)
    · exact u_known hz uX4 (hz _ kt_147)
    · exact u_known hz uX5 (hz _ kt_177)
    · exact u_known hz uX6 (hz _ kt_219)
    · exact u_known hz uX7 (hz _ kt_69)
    · exact u_known hz uX8 (hz _ kt_238)
    · exact u_known hz uX9 (hz _ kt_35)
    · exact u_known hz uX10 (hz _ kt_96)
    · exact u_known hz uX11 (hz _ kt_27)
    · exact u_known hz uX12 (hz _ kt_1097)
  have hch : ∀ c : Nat, ∃ q : ClassId × (Nat → Nat), ∀ w, vwCl[c]? = some w → u_Kn s w.1 w.2.1 w.2.2 q.1 q.2 := by
    intro c
    cases hc : vwCl[c]? with
    | none => exact ⟨(0, fun _ => 0), fun w h => by cases h⟩
    | some w =>
      obtain ⟨a, b, h⟩ := hAll w (List.mem_of_getElem? hc)
      exact ⟨(a, b), fun w' h' => by cases h'; exact h⟩
  obtain ⟨g, hg⟩ := Classical.axiomOfChoice hch
  exact ⟨(fun c => (g c).1, fun c => (g c).2), fun c q hq => hg c q hq⟩
theorem arr1 {s : State} {args : Array Value} {ty : FieldType} (hno : ∀ C, ty ≠ .object C) (h : (Cond.arrayClass ty).before args s = true) : ∃ cA : ClassId, ArrOfT s cA ty ∧ va_RA s cA ty := by
  obtain ⟨cA, kA, comp, h1, h2, h3⟩ := Cond.arrayClass_spec h
  refine ⟨cA, fun n z => ⟨fun k h => (by cases h), kA, h2, comp, h3⟩, ?_⟩
  cases ty with
  | object C => exact absurd rfl (hno C)
  | _ => exact h1
theorem arr2 {s : State} {args : Array Value} {C : String} (h : (Cond.arrayOver (.object C)).before args s = true) : ∃ cA : ClassId, ArrOfT s cA (.object C) ∧ va_RA s cA (.object C) := by
  obtain ⟨comp, cA, kA, h1, -, h2, h3, h4⟩ := Cond.arrayOver_spec h
  exact ⟨cA, fun n z => ⟨fun k h => (by cases h), kA, h2, comp, h3⟩, kA, comp, h2, h3, h1, h4⟩
theorem law_env {p : Program} {s : State} {m : MethodId} {meth : Method} {c : Code} {b L : Nat} {xs : Nat → Int32} (C0 : lw_At p s m meth c b L xs) : ∃ (D : va_G) (cy : Nat → ClassId) (o : Nat → Nat), o 148 = b ∧ va_K D vwCl (zTy cy) s ∧ zNw s ∧ Pl (o 145) (fun q => s.heap.size ≤ q) s ∧ va_AO nWh s ∧ (∀ ad : Nat → Nat, (∀ k, 145 ≤ k → ad k = o k) → zEx ad (fun q => s.heap.size ≤ q) s) ∧ zTx (fun q => s.heap.size ≤ q) s := by
  obtain ⟨hx, hb, hr, hml, hown, hts, hX, hbl, hlk, hgv⟩ := C0
  have hs := flat_of_before _ hgv
  have hz : ∀ w ∈ zTb, w.before #[Value.ref b] s = true := fun w hw => hts w (List.mem_filter.mp hw).1
  have hA : ∀ a : Nat, a < s.heap.size → ¬ (fun q => s.heap.size ≤ q) a := fun a h => Nat.not_le.mpr h
  have hf : ∀ w : Cond, w ∈ fcL → w.before #[Value.ref b] s = true := fun w hw => hs w (fc_some w hw)
  obtain ⟨D, hD⟩ := law_cls hz
  obtain ⟨a0, a01, a02⟩ := arr1 (ty := .int) (fun C h => by cases h) (hz _ kt_51)
  obtain ⟨a1, a11, a12⟩ := arr1 (ty := .long) (fun C h => by cases h) (hz _ kt_67)
  obtain ⟨a2, a21, a22⟩ := arr1 (ty := .boolean) (fun C h => by cases h) (hz _ kt_175)
  obtain ⟨a3, a31, a32⟩ := arr1 (ty := .byte) (fun C h => by cases h) (hz _ kt_534)
  have hAO : (Cond.arrayOver (.object nWh)).before #[Value.ref b] s = true := hts _ (in_lw 133 (by decide +kernel))
  obtain ⟨a4, a41, a42⟩ := arr2 hAO
  obtain ⟨pa, hpa, hPX, hpl⟩ := Xof (xs := fun j => zPlain.getD j 0) (N := 9) (by decide) (hf (Cond.arrayOf (Term.static "LostByState$Rule" "PLAIN" "[I") .int) (by simp [fcL])) (va_eqt (hf (Cond.eq (.length (Term.static "LostByState$Rule" "PLAIN" "[I")) (.int (Int32.ofNat 9))) (by simp [fcL]))) (fun j hj => va_eqt (hs _ (fc_plain j hj)))
  obtain ⟨sa, sc, scA, skA, s1, -⟩ := Cond.exactly_spec (args := #[Value.ref b]) (first := s) (o := none) (s := s) (idx := []) (t := (Term.string "LostByState$RuleReader" 77)) (cls := "java/lang/String") (hf (Cond.exactly (Term.string "LostByState$RuleReader" 77) "java/lang/String") (by simp [fcL]))
  obtain ⟨ba, hba, hbT⟩ := va_Tof (A := fun q => s.heap.size ≤ q) (f := fun j => .int (([109, 120, 121, 119, 100, 110] : List Int32).getD j 0)) (N := 6) (by decide) (hf (Cond.arrayOf (Term.field (Term.string "LostByState$RuleReader" 77) "java/lang/String" "value" "[B") .byte) (by simp [fcL])) (va_eqt (hf (Cond.eq (.length (Term.field (Term.string "LostByState$RuleReader" 77) "java/lang/String" "value" "[B")) (.int (Int32.ofNat 6))) (by simp [fcL]))) (fun j hj => va_eqt (hs _ (fc_text j hj))) hA
  have hPl : va_Z "LostByState$Rule" "PLAIN" "[I" (.ref pa) (fun q => s.heap.size ≤ q) s s.heap := va_Zof (hts _ (in_lw 157 (by decide +kernel))) (hts _ (in_lw 7 (by decide +kernel))) hpa hA
  refine ⟨D, fun k => ([a0, a1, a2, a3, a4] : List ClassId).getD k 0, fun k => if k = 145 then pa else if k = 146 then sa else if k = 147 then ba else b, rfl, ⟨hD, ?_⟩, ⟨fun q hq => ?_, fun q hq => ?_⟩, ⟨hPl, hPX, hpl, Nat.not_le.mpr hpl⟩, va_AO.of hAO, fun ad had => ?_, ⟨⟨fun q hq => ?_, fun w hw => ?_, fun q hq => ?_⟩, ?_, ?_⟩⟩
  · intro k q hk
    have hl : k < 5 := (List.getElem?_eq_some_iff.mp hk).1
    rcases (show k = 0 ∨ k = 1 ∨ k = 2 ∨ k = 3 ∨ k = 4 by omega) with rfl | rfl | rfl | rfl | rfl <;> cases hk
    · exact ⟨a01, a02⟩
    · exact ⟨a11, a12⟩
    · exact ⟨a21, a22⟩
    · exact ⟨a31, a32⟩
    · exact ⟨a41, a42⟩
  · exact va_Nw.of rfl (hts _ (zNF_in _ (List.mem_map.mpr ⟨q, hq, rfl⟩)))
  · exact va_Nw.of rfl (hts _ (zNM_in _ (List.mem_map.mpr ⟨q, hq, rfl⟩)))
  · have e5 : ad 145 = pa := had 145 (by decide)
    have e6 : ad 146 = sa := had 146 (by decide)
    have e7 : ad 147 = ba := had 147 (by decide)
    unfold zEx
    rw [e5, e6, e7]
    exact ⟨⟨hPl, hPX, hpl, Nat.not_le.mpr hpl⟩, ⟨vk_R.of (hts _ (in_lw 445 (by decide +kernel))) s1, va_Oof (hf (Cond.exactly (Term.string "LostByState$RuleReader" 77) "java/lang/String") (by simp [fcL])) s1 hA, vk_OFof s1 hba hA, vk_OFof s1 (va_eqt (hf (Cond.eq (.field (Term.string "LostByState$RuleReader" 77) "java/lang/String" "coder" "B") (.int 0)) (by simp [fcL]))) hA, hbT⟩, va_Zof (hts _ (in_lw 459 (by decide +kernel))) (hts _ (in_lw 16 (by decide +kernel))) (va_eqt (hf (Cond.eq (.static "java/lang/String" "COMPACT_STRINGS" "Z") (.int 1)) (by simp [fcL]))) hA⟩
  · obtain ⟨a, cc, ccA, ckA, c1, -⟩ := Cond.exactly_spec (args := #[Value.ref b]) (first := s) (o := none) (s := s) (idx := []) (t := .string "LostByState" q.1) (cls := "java/lang/String") (hs _ (fc_str q hq))
    exact ⟨a, vk_R.of (hts _ (zTS_in _ (List.mem_map.mpr ⟨q, hq, rfl⟩))) c1⟩
  · have h9 := hts w (zDc_in w hw)
    simp only [zDc, List.mem_cons, List.not_mem_nil, or_false] at hw
    rcases hw with rfl | rfl | rfl <;> exact va_Nw.of rfl h9
  · exact (hts _ (zLs_in _ (List.mem_map.mpr ⟨q, hq, rfl⟩)) : (Cond.laysStatic Bundle.tN q.1 q.2).before #[Value.ref b] s = true)
  · rcases va_Zqof (A := fun q => s.heap.size ≤ q) (hts (Cond.laysStatic Bundle.tN "UNASSIGNED_STACK" Bundle.steD) (in_lw 1040 (by decide +kernel))) (hts (Cond.initialized Bundle.tN) (in_lw 21 (by decide +kernel))) (hf (Cond.isRef (.static Bundle.tN "UNASSIGNED_STACK" Bundle.steD)) (by simp [fcL])) hA with z | ⟨t, z⟩
    · exact ⟨⟨.null, rfl⟩, z⟩
    · exact ⟨⟨.ref t, rfl⟩, z⟩
  · rcases va_Zqof (A := fun q => s.heap.size ≤ q) (hts (Cond.laysStatic Bundle.tN "SUPPRESSED_SENTINEL" Bundle.listD) (in_lw 1042 (by decide +kernel))) (hts (Cond.initialized Bundle.tN) (in_lw 21 (by decide +kernel))) (hf (Cond.isRef (.static Bundle.tN "SUPPRESSED_SENTINEL" Bundle.listD)) (by simp [fcL])) hA with z | ⟨t, z⟩
    · exact ⟨⟨.null, rfl⟩, z⟩
    · exact ⟨⟨.ref t, rfl⟩, z⟩
