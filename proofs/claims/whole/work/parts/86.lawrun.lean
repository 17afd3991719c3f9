/-! the law's loop to its end: what is left is the wrappers' calls (hT) and the end (hend) -/
theorem law_loop {E : zE} {Γ : Nat → Nat → zT} {d L c0 s0 KC KS : Nat} {xs : Nat → Int32} (hcx : ∀ ce sl, ce ≤ c0 + KC * 512 → sl ≤ s0 + KS * 512 → Cx E (Γ ce sl) RLw code 8 d) (hd : 121 ≤ d) (hsc : ∀ ce sl, Scr E (Γ ce sl) L xs) (hL : L ≤ 2560)
    (hT : ∀ pc, (pc = 337 ∨ pc = 405 ∨ pc = 1510) → ∀ ce sl i N M, ce ≤ c0 + KC * N → sl ≤ s0 + KS * N → N < 512 → i + 5 ≤ L → RAll M N → (∀ ce' sl' M2, ce' ≤ c0 + KC * (N + 1) → sl' ≤ s0 + KS * (N + 1) → RAll M2 (N + 1) → G E (Γ ce' sl') 8 1565 (lvL i) [] M2) → G E (Γ ce sl) 8 pc (lvL i) [] M)
    (hend : ∀ ce sl i M, ce ≤ c0 + KC * 512 → sl ≤ s0 + KS * 512 → G E (Γ ce sl) 8 1571 (lvL i) [] M) : ∀ r i N ce sl M, i = 5 * N → L < i + 5 * r + 5 → i ≤ L → ce ≤ c0 + KC * N → sl ≤ s0 + KS * N → RAll M N → G E (Γ ce sl) 8 23 (lvL i) [] M := by
  have up : ∀ K a b : Nat, a ≤ b → K * a ≤ K * b := fun K a b h => Nat.mul_le_mul_left K h
  intro r
  induction r with
  | zero =>
    intro i N ce sl M hi hr hiL h1 h2 h
    have hN : N ≤ 512 := by omega
    have b1 := up KC N 512 hN
    have b2 := up KS N 512 hN
    exact law_step (hcx ce sl (by omega) (by omega)) hd (hsc ce sl) hL hiL (by omega) h (fun z => absurd z (by omega)) (fun z => absurd z (by omega)) (fun z => absurd z (by omega)) (fun _ => hend ce sl i M (by omega) (by omega)) (fun z => absurd z (by omega))
  | succ r ih =>
    intro i N ce sl M hi hr hiL h1 h2 h
    have hN : N ≤ 512 := by omega
    have b1 := up KC N 512 hN
    have b2 := up KS N 512 hN
    have nx : i + 5 ≤ L → ∀ ce' sl' M2, ce' ≤ c0 + KC * (N + 1) → sl' ≤ s0 + KS * (N + 1) → RAll M2 (N + 1) → G E (Γ ce' sl') 8 1565 (lvL i) [] M2 := by
      intro hi5 ce' sl' M2 g1 g2 g3
      have hN' : N + 1 ≤ 512 := by omega
      have b1' := up KC (N + 1) 512 hN'
      have b2' := up KS (N + 1) 512 hN'
      have hc := hcx ce' sl' (by omega) (by omega)
      refine g_iinc (i := 4) (x := nI i) (v := nI (i + 5)) hc dL_1565 rfl (nI_add i 5) (by omega) (lv2 := [(4, .int (nI (i + 5))), (0, .ref 148), (1, .ref 0), (2, .ref 36), (3, .ref 59)]) rfl ?_
      refine g_goto hc dL_1568 (tgt := 23) (by decide) ?_
      refine g_drop (lv2 := lvL (i + 5)) (fun q hq => ?_) (ih (i + 5) (N + 1) ce' sl' M2 (by omega) (by omega) (by omega) g1 g2 g3)
      simp only [lvL, List.mem_cons, List.not_mem_nil, or_false] at hq ⊢
      rcases hq with z | z | z | z | z
      · exact Or.inr (Or.inl z)
      · exact Or.inr (Or.inr (Or.inl z))
      · exact Or.inr (Or.inr (Or.inr (Or.inl z)))
      · exact Or.inr (Or.inr (Or.inr (Or.inr z)))
      · exact Or.inl z
    have s1 := up KC N (N + 1) (by omega)
    have s2 := up KS N (N + 1) (by omega)
    exact law_step (hcx ce sl (by omega) (by omega)) hd (hsc ce sl) hL hiL (by omega) h (fun z => hT 337 (Or.inl rfl) ce sl i N M h1 h2 (by omega) z h (nx z)) (fun z => hT 405 (Or.inr (Or.inl rfl)) ce sl i N M h1 h2 (by omega) z h (nx z)) (fun z => hT 1510 (Or.inr (Or.inr rfl)) ce sl i N M h1 h2 (by omega) z h (nx z)) (fun _ => hend ce sl i M (by omega) (by omega)) (fun z M2 hR => nx z ce sl M2 (by omega) (by omega) hR)
