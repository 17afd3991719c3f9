/-! THE LAW'S LOOP -/
theorem dL_23 : decode code 23 = .ok (.iload 4, 2) := by decide +kernel
theorem dL_25 : decode code 25 = .ok (.aload_n 0, 1) := by decide +kernel
theorem dL_26 : decode code 26 = .ok (.arraylength, 1) := by decide +kernel
theorem dL_27 : decode code 27 = .ok (.iconst 5, 1) := by decide +kernel
theorem dL_28 : decode code 28 = .ok (.isub, 1) := by decide +kernel
theorem dL_29 : decode code 29 = .ok (.if_icmp .gt 1542, 3) := by decide +kernel
theorem dL_32 : decode code 32 = .ok (.aload_n 0, 1) := by decide +kernel
theorem dL_33 : decode code 33 = .ok (.iload 4, 2) := by decide +kernel
theorem dL_35 : decode code 35 = .ok (.iaload, 1) := by decide +kernel
theorem dL_36 : decode code 36 = .ok (.bipush 63, 2) := by decide +kernel
theorem dL_38 : decode code 38 = .ok (.iand, 1) := by decide +kernel
theorem dL_39 : decode code 39 = .ok (.tableswitch 1526 0 48 #[209, 234, 259, 272, 285, 298, 366, 434, 471, 532, 569, 606, 643, 680, 705, 718, 731, 768, 793, 818, 843, 856, 881, 906, 919, 932, 957, 982, 1019, 1032, 1045, 1058, 1071, 1084, 1109, 1158, 1171, 1196, 1209, 1234, 1259, 1296, 1309, 1346, 1359, 1396, 1421, 1446, 1471], 209) := by decide +kernel
theorem dL_1565 : decode code 1565 = .ok (.iinc 4 5, 3) := by decide +kernel
theorem dL_1568 : decode code 1568 = .ok (.goto (-1545), 3) := by decide +kernel
theorem and63 (x : Int32) : ∃ v, v < 64 ∧ x &&& 63 = nI v := by
  refine ⟨x.toBitVec.toNat % 64, Nat.mod_lt _ (by omega), ?_⟩
  apply Int32.toBitVec_inj.mp
  apply BitVec.eq_of_toNat_eq
  rw [Int32.toBitVec_and, BitVec.toNat_and, pk_tn (by have := Nat.mod_lt x.toBitVec.toNat (show 0 < 64 by omega); omega)]
  exact Nat.and_two_pow_sub_one_eq_mod _ 6
theorem sub5 : ∀ L, L < 5 → (nI L - 5).toInt < 0 := by decide
theorem tsw_lt {v : Nat} (h : 48 < v) (h2 : v < 64) : (48 : Int) < (nI v).toInt := by rw [nI_toInt (by omega)]; omega
/-- one round of the loop -/
theorem law_step {E : zE} {Γ : Nat → Nat → zT} {d L i N ce sl : Nat} {xs : Nat → Int32} {M : zM} (hc : Cx E (Γ ce sl) RLw code 8 d) (hd : 121 ≤ d) (hs : Scr E (Γ ce sl) L xs) (hL : L ≤ 2560) (hi2 : i ≤ L) (hN : N < 1000) (h : RAll M N)
    (h5 : i + 5 ≤ L → G E (Γ ce sl) 8 337 (lvL i) [] M) (h6 : i + 5 ≤ L → G E (Γ ce sl) 8 405 (lvL i) [] M) (h48 : i + 5 ≤ L → G E (Γ ce sl) 8 1510 (lvL i) [] M) (hend : L < i + 5 → G E (Γ ce sl) 8 1571 (lvL i) [] M) (k : i + 5 ≤ L → ∀ M2, RAll M2 (N + 1) → G E (Γ ce sl) 8 1565 (lvL i) [] M2) : G E (Γ ce sl) 8 23 (lvL i) [] M := by
  refine g_iload (i := 4) (x := nI i) hc dL_23 rfl ?_
  refine g_aload_n (i := 0) (x := 148) hc dL_25 rfl rfl ?_
  refine g_slen hc hs dL_26 ?_
  refine g_iconst (v := 5) hc dL_27 (by decide) ?_
  refine g_isub hc dL_28 ?_
  refine g_icmp_gt hc dL_29 (tgt := 1571) (by decide) (fun z => hend ?_) (fun z => ?_)
  · rcases Nat.lt_or_ge L 5 with w | w
    · omega
    · rw [show nI L - 5 = nI (L - 5) from pk_sub (b := 5) w] at z
      have := (nI_ltI (by omega) (by omega)).mp z
      omega
  · have hi : i + 5 ≤ L := by
      rcases Nat.lt_or_ge L 5 with w | w
      · exfalso
        apply z
        rw [Int32.lt_iff_toInt_lt, nI_toInt (by omega)]
        have := sub5 L w
        omega
      · rw [show nI L - 5 = nI (L - 5) from pk_sub (b := 5) w] at z
        rcases Nat.lt_or_ge (L - 5) i with q | q
        · exact absurd (ltT q (by omega)) z
        · omega
    have k := k hi
    have h5 := h5 hi
    have h6 := h6 hi
    have h48 := h48 hi
    refine g_aload_n (i := 0) (x := 148) hc dL_32 rfl rfl ?_
    refine g_iload (i := 4) (x := nI i) hc dL_33 rfl ?_
    refine g_sld (j := i) hc hs dL_35 rfl (by omega) hL ?_
    refine g_bipush (v := 63) hc dL_36 (by decide) ?_
    refine g_iand hc dL_38 ?_
    obtain ⟨v, hv, ev⟩ := and63 (xs i)
    rw [ev]
    rcases Nat.lt_or_ge 48 v with w | w
    · refine g_tswOut (tgt := 1565) hc dL_39 (Or.inr (tsw_lt w hv)) (by decide) ?_
      exact k M (by
        obtain ⟨n, nd, a1, a2, a3, a4, a5, a6, a7, a8, a9⟩ := h
        exact ⟨n, nd, a1, a2, a3, a4, a5, a6.up, a7, a8, a9⟩)
    · have : v = 0 ∨ v = 1 ∨ v = 2 ∨ v = 3 ∨ v = 4 ∨ v = 5 ∨ v = 6 ∨ v = 7 ∨ v = 8 ∨ v = 9 ∨ v = 10 ∨ v = 11 ∨ v = 12 ∨ v = 13 ∨ v = 14 ∨ v = 15 ∨ v = 16 ∨ v = 17 ∨ v = 18 ∨ v = 19 ∨ v = 20 ∨ v = 21 ∨ v = 22 ∨ v = 23 ∨ v = 24 ∨ v = 25 ∨ v = 26 ∨ v = 27 ∨ v = 28 ∨ v = 29 ∨ v = 30 ∨ v = 31 ∨ v = 32 ∨ v = 33 ∨ v = 34 ∨ v = 35 ∨ v = 36 ∨ v = 37 ∨ v = 38 ∨ v = 39 ∨ v = 40 ∨ v = 41 ∨ v = 42 ∨ v = 43 ∨ v = 44 ∨ v = 45 ∨ v = 46 ∨ v = 47 ∨ v = 48 := by omega
      rcases this with rfl | rfl | rfl | rfl | rfl | rfl | rfl | rfl | rfl | rfl | rfl | rfl | rfl | rfl | rfl | rfl | rfl | rfl | rfl | rfl | rfl | rfl | rfl | rfl | rfl | rfl | rfl | rfl | rfl | rfl | rfl | rfl | rfl | rfl | rfl | rfl | rfl | rfl | rfl | rfl | rfl | rfl | rfl | rfl | rfl | rfl | rfl | rfl | rfl
      · refine g_tswIn (tgt := 248) (off := 209) hc dL_39 0 rfl (by decide) (by decide) rfl (by decide) ?_
        exact law_sign hc hd hs hL hi hN h k
      · refine g_tswIn (tgt := 273) (off := 234) hc dL_39 1 rfl (by decide) (by decide) rfl (by decide) ?_
        exact law_end hc hd hs hL hi hN h k
      · refine g_tswIn (tgt := 298) (off := 259) hc dL_39 2 rfl (by decide) (by decide) rfl (by decide) ?_
        exact law_things hc hd hs hL hi hN h k
      · refine g_tswIn (tgt := 311) (off := 272) hc dL_39 3 rfl (by decide) (by decide) rfl (by decide) ?_
        exact law_deeds hc hd hs hL hi hN h k
      · refine g_tswIn (tgt := 324) (off := 285) hc dL_39 4 rfl (by decide) (by decide) rfl (by decide) ?_
        exact law_rule hc hd hs hL hi hN h k
      · refine g_tswIn (tgt := 337) (off := 298) hc dL_39 5 rfl (by decide) (by decide) rfl (by decide) ?_
        exact h5
      · refine g_tswIn (tgt := 405) (off := 366) hc dL_39 6 rfl (by decide) (by decide) rfl (by decide) ?_
        exact h6
      · refine g_tswIn (tgt := 473) (off := 434) hc dL_39 7 rfl (by decide) (by decide) rfl (by decide) ?_
        exact law_set hc hd hs hL hi hN h k
      · refine g_tswIn (tgt := 510) (off := 471) hc dL_39 8 rfl (by decide) (by decide) rfl (by decide) ?_
        exact law_sheet hc hd hs hL hi hN h k
      · refine g_tswIn (tgt := 571) (off := 532) hc dL_39 9 rfl (by decide) (by decide) rfl (by decide) ?_
        exact law_loses hc hd hs hL hi hN h k
      · refine g_tswIn (tgt := 608) (off := 569) hc dL_39 10 rfl (by decide) (by decide) rfl (by decide) ?_
        exact law_finds hc hd hs hL hi hN h k
      · refine g_tswIn (tgt := 645) (off := 606) hc dL_39 11 rfl (by decide) (by decide) rfl (by decide) ?_
        exact law_claim hc hd hs hL hi hN h k
      · refine g_tswIn (tgt := 682) (off := 643) hc dL_39 12 rfl (by decide) (by decide) rfl (by decide) ?_
        exact law_gives hc hd hs hL hi hN h k
      · refine g_tswIn (tgt := 719) (off := 680) hc dL_39 13 rfl (by decide) (by decide) rfl (by decide) ?_
        exact law_days hc hd hs hL hi hN h k
      · refine g_tswIn (tgt := 744) (off := 705) hc dL_39 14 rfl (by decide) (by decide) rfl (by decide) ?_
        exact law_year hc hd hs hL hi hN h k
      · refine g_tswIn (tgt := 757) (off := 718) hc dL_39 15 rfl (by decide) (by decide) rfl (by decide) ?_
        exact law_undo hc hd hs hL hi hN h k
      · refine g_tswIn (tgt := 770) (off := 731) hc dL_39 16 rfl (by decide) (by decide) rfl (by decide) ?_
        exact law_match hc hd hs hL hi hN h k
      · refine g_tswIn (tgt := 807) (off := 768) hc dL_39 17 rfl (by decide) (by decide) rfl (by decide) ?_
        exact law_gets hc hd hs hL hi hN h k
      · refine g_tswIn (tgt := 832) (off := 793) hc dL_39 18 rfl (by decide) (by decide) rfl (by decide) ?_
        exact law_fewest hc hd hs hL hi hN h k
      · refine g_tswIn (tgt := 857) (off := 818) hc dL_39 19 rfl (by decide) (by decide) rfl (by decide) ?_
        exact law_ways hc hd hs hL hi hN h k
      · refine g_tswIn (tgt := 882) (off := 843) hc dL_39 20 rfl (by decide) (by decide) rfl (by decide) ?_
        exact law_shares hc hd hs hL hi hN h k
      · refine g_tswIn (tgt := 895) (off := 856) hc dL_39 21 rfl (by decide) (by decide) rfl (by decide) ?_
        exact law_until hc hd hs hL hi hN h k
      · refine g_tswIn (tgt := 920) (off := 881) hc dL_39 22 rfl (by decide) (by decide) rfl (by decide) ?_
        exact law_later hc hd hs hL hi hN h k
      · refine g_tswIn (tgt := 945) (off := 906) hc dL_39 23 rfl (by decide) (by decide) rfl (by decide) ?_
        exact law_advantage hc hd hs hL hi hN h k
      · refine g_tswIn (tgt := 958) (off := 919) hc dL_39 24 rfl (by decide) (by decide) rfl (by decide) ?_
        exact law_soonest hc hd hs hL hi hN h k
      · refine g_tswIn (tgt := 971) (off := 932) hc dL_39 25 rfl (by decide) (by decide) rfl (by decide) ?_
        exact law_confused hc hd hs hL hi hN h k
      · refine g_tswIn (tgt := 996) (off := 957) hc dL_39 26 rfl (by decide) (by decide) rfl (by decide) ?_
        exact law_regains hc hd hs hL hi hN h k
      · refine g_tswIn (tgt := 1021) (off := 982) hc dL_39 27 rfl (by decide) (by decide) rfl (by decide) ?_
        exact law_said hc hd hs hL hi hN h k
      · refine g_tswIn (tgt := 1058) (off := 1019) hc dL_39 28 rfl (by decide) (by decide) rfl (by decide) ?_
        exact law_forget hc hd hs hL hi hN h k
      · refine g_tswIn (tgt := 1071) (off := 1032) hc dL_39 29 rfl (by decide) (by decide) rfl (by decide) ?_
        exact law_fits hc hd hs hL hi hN h k
      · refine g_tswIn (tgt := 1084) (off := 1045) hc dL_39 30 rfl (by decide) (by decide) rfl (by decide) ?_
        exact law_ask hc hd hs hL hi hN h k
      · refine g_tswIn (tgt := 1097) (off := 1058) hc dL_39 31 rfl (by decide) (by decide) rfl (by decide) ?_
        exact law_tellsApart hc hd hs hL hi hN h k
      · refine g_tswIn (tgt := 1110) (off := 1071) hc dL_39 32 rfl (by decide) (by decide) rfl (by decide) ?_
        exact law_alike hc hd hs hL hi hN h k
      · refine g_tswIn (tgt := 1123) (off := 1084) hc dL_39 33 rfl (by decide) (by decide) rfl (by decide) ?_
        exact law_looks hc hd hs hL hi hN h k
      · refine g_tswIn (tgt := 1148) (off := 1109) hc dL_39 34 rfl (by decide) (by decide) rfl (by decide) ?_
        exact law_strays hc hd hs hL hi hN h k
      · refine g_tswIn (tgt := 1197) (off := 1158) hc dL_39 35 rfl (by decide) (by decide) rfl (by decide) ?_
        exact law_can hc hd hs hL hi hN h k
      · refine g_tswIn (tgt := 1210) (off := 1171) hc dL_39 36 rfl (by decide) (by decide) rfl (by decide) ?_
        exact law_with hc hd hs hL hi hN h k
      · refine g_tswIn (tgt := 1235) (off := 1196) hc dL_39 37 rfl (by decide) (by decide) rfl (by decide) ?_
        exact law_weakest hc hd hs hL hi hN h k
      · refine g_tswIn (tgt := 1248) (off := 1209) hc dL_39 38 rfl (by decide) (by decide) rfl (by decide) ?_
        exact law_worth hc hd hs hL hi hN h k
      · refine g_tswIn (tgt := 1273) (off := 1234) hc dL_39 39 rfl (by decide) (by decide) rfl (by decide) ?_
        exact law_hangs hc hd hs hL hi hN h k
      · refine g_tswIn (tgt := 1298) (off := 1259) hc dL_39 40 rfl (by decide) (by decide) rfl (by decide) ?_
        exact law_likely hc hd hs hL hi hN h k
      · refine g_tswIn (tgt := 1335) (off := 1296) hc dL_39 41 rfl (by decide) (by decide) rfl (by decide) ?_
        exact law_hatch hc hd hs hL hi hN h k
      · refine g_tswIn (tgt := 1348) (off := 1309) hc dL_39 42 rfl (by decide) (by decide) rfl (by decide) ?_
        exact law_rests hc hd hs hL hi hN h k
      · refine g_tswIn (tgt := 1385) (off := 1346) hc dL_39 43 rfl (by decide) (by decide) rfl (by decide) ?_
        exact law_law hc hd hs hL hi hN h k
      · refine g_tswIn (tgt := 1398) (off := 1359) hc dL_39 44 rfl (by decide) (by decide) rfl (by decide) ?_
        exact law_years hc hd hs hL hi hN h k
      · refine g_tswIn (tgt := 1435) (off := 1396) hc dL_39 45 rfl (by decide) (by decide) rfl (by decide) ?_
        exact law_keep hc hd hs hL hi hN h k
      · refine g_tswIn (tgt := 1460) (off := 1421) hc dL_39 46 rfl (by decide) (by decide) rfl (by decide) ?_
        exact law_again hc hd hs hL hi hN h k
      · refine g_tswIn (tgt := 1485) (off := 1446) hc dL_39 47 rfl (by decide) (by decide) rfl (by decide) ?_
        exact law_count hc hd hs hL hi hN h k
      · refine g_tswIn (tgt := 1510) (off := 1471) hc dL_39 48 rfl (by decide) (by decide) rfl (by decide) ?_
        exact h48
