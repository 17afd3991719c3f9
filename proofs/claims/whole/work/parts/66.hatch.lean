/-! hatch -/
theorem RAll.text {M Z : zM} {N : Nat} {l J : List Nat} (h : RAll M N) (sm : Sm l J M Z) (aS : offL [5, 6, 7, 8, 38, 39, 40] l = true) (aW : offL [60, 60 + 1, 60 + 2, 60 + 3, 60 + 4, 37] l = true) (aP : offL (9 :: 47 :: slotsL) l = true) (aK : offL (12 :: 56 :: 57 :: 58 :: keptL) l = true) (aH : offL [34, 52] l = true) (aU : offL [13, 14, 44] l = true) (bS : offL [1, 2] J = true) (bP : offL [25] J = true) (bK : offL [37] J = true) (bC : offL [3, 4] J = true) (bH : offL [31, 32] J = true) (bU : offL [21] J = true) (h17 : Z.1 0 17 = M.1 0 17) (h18 : Z.1 0 18 = M.1 0 18) (z1 : Z.1 1 1 = 0) (z9 : Z.1 36 9 = 0) (hO : RO Z) : RAll Z (N + 1) := by
  obtain ⟨n, nd, h1, h2, h3, h4, h5, h6, h7, h8, h9⟩ := h
  exact ⟨n, nd, h1.sm sm aS bS, h2.sm sm aW (by omega), RX.empty z1 z9, hO, h5.sm sm aP bP, (h6.sm sm aK bK).up, h7.sm sm h17 h18 bC, h8.sm sm aH bH, h9.sm sm aU bU⟩
def xrA (f : Nat → Int32) : Nat → Int32
  | 0 => 0
  | n + 1 => xrA f n ^^^ f n
theorem xrA_congr {f g : Nat → Int32} : ∀ {n : Nat}, (∀ t, t < n → f t = g t) → xrA f n = xrA g n
  | 0, _ => rfl
  | n + 1, h => by
    show xrA f n ^^^ f n = xrA g n ^^^ g n
    rw [xrA_congr (fun t ht => h t (by omega)), h n (by omega)]
theorem xor_0 (x : Int32) : x ^^^ 0 = x := by
  apply Int32.toBitVec_inj.mp
  simp
/-- digit j, as both have it -/
def dgV (M : zM) (j : Nat) : Int32 := M.1 2 j - 48
section HT
variable {M R : zM} {k D : Nat}
def htM (M R : zM) : Nat → zM
  | 0 => R
  | i + 1 => zSI (zSI (htM M R i) 36 16 (nI (i + 1))) 43 i (dgV M i)
theorem dP_sIn (h : dP M D = true) : D < 6 ∧ sIn (M.1 2 D) 48 57 = true := by
  unfold dP at h
  simp at h
  exact h
theorem gT_in {most j : Nat} (h : j < min k most) : gT M (min k most) j = M.1 2 j := by unfold gT; rw [if_pos h]
theorem htM_spec (hk : k ≤ 80) (hR : TSt (gT M (min k 6)) k 6 R 0 none) : ∀ i, i ≤ k → TSt (gT M (min k 6)) k 6 (htM M R i) i none ∧ (htM M R i).2 = R.2 ∧ (∀ q, q ≠ 36 → q ≠ 43 → (htM M R i).1 q = R.1 q) ∧ (∀ j, j ≠ 16 → (htM M R i).1 36 j = R.1 36 j) ∧ ∀ j, j < i → (htM M R i).1 43 j = dgV M j
  | 0, _ => ⟨hR, rfl, fun _ _ _ => rfl, fun _ _ => rfl, fun j hj => absurd hj (by omega)⟩
  | i + 1, hi => by
    obtain ⟨a, b, c, d, e⟩ := htM_spec hk hR i (by omega)
    refine ⟨(a.adv (by omega)).SI (by decide) _, b, fun q q1 q2 => ?_, fun j hj => ?_, fun j hj => ?_⟩
    · show (zSI (zSI (htM M R i) 36 16 _) 43 i _).1 q = _
      rw [zSI_other _ _ _ q2, zSI_other _ _ _ q1]; exact c q q1 q2
    · show (zSI (zSI (htM M R i) 36 16 _) 43 i _).1 36 j = _
      rw [zSI_other _ _ _ (by decide), gSI, if_neg (by omega)]; exact d j hj
    · show (zSI (zSI (htM M R i) 36 16 _) 43 i (dgV M i)).1 43 j = _
      rw [gSI]
      by_cases z : j = i
      · subst z; rw [if_pos ⟨rfl, rfl⟩]
      · rw [if_neg (fun w => z w.2), zSI_other _ _ _ (by decide)]; exact e j (by omega)
theorem m_hatchS (hk : k ≤ 80) (hb : ∀ j, j < k → ∃ b : Nat, b < 256 ∧ M.1 2 j = nI b) (hR : TSt (gT M (min k 6)) k 6 R 0 none) (hD : D ≤ k) (hP : ∀ j, j < D → dP M j = true) (n i : Nat) (hi : i < D) : fX12_hatch_L15 (n + 1) (nI i) (xrA (dgV M) i) (htM M R i) = fX12_hatch_L15 n (nI (i + 1)) (xrA (dgV M) (i + 1)) (htM M R (i + 1)) := by
  obtain ⟨a, -, -, -, -⟩ := htM_spec hk hR i (by omega)
  have hg := GT_of (most := 6) hb
  obtain ⟨h6, hs⟩ := dP_sIn (hP i hi)
  have eg : gT M (min k 6) i = M.1 2 i := gT_in (by omega)
  have e1 := t_one1 hg a (f := 48) (m := 10) (by omega) (by omega) (by omega) (by rw [eg]; exact hs)
  rw [eg] at e1
  have e1' : fX12_oneOf 48 10 (htM M R i) = some (dgV M i, zSI (htM M R i) 36 16 (nI (i + 1))) := e1
  have nh : ¬ M.1 2 i = -1 := fun z => by rw [z, sIn_m1 (by omega)] at hs; cases hs
  have ev : (zSI (zSI (htM M R i) 36 16 (nI (i + 1))) 43 i (dgV M i)).1 43 i = dgV M i := by rw [gSI, if_pos ⟨rfl, rfl⟩]
  have i31 : i < 2 ^ 31 := by omega
  simp only [fX12_hatch_L15, t_fine1 a, show ¬ (1 : Int32) = 0 by decide, if_false, zj, e1', Option.bind_some, zp, if_pos (zinT (show i < 16 by omega) i31), nI_clamp i31, zlet, ev, nI_1, t_here hg a, eg, if_neg nh, ite_self]
  rfl
theorem m_hatchGood (hk : k ≤ 80) (hb : ∀ j, j < k → ∃ b : Nat, b < 256 ∧ M.1 2 j = nI b) (hR : TSt (gT M (min k 6)) k 6 R 0 none) (hD : D ≤ k) (hP : ∀ j, j < D → dP M j = true) (h0 : 0 < D) (h6 : D = 6 ∨ D = k) : fX12_hatch_L15 4000 0 0 R = some (nI D, xrA (dgV M) D, htM M R D) := by
  have hD6 : D ≤ 6 := by
    rcases Nat.lt_or_ge 6 D with h | h
    · have := (dP_sIn (hP 6 h)).1
      omega
    · exact h
  refine zforE (fun n (s : Int32 × Int32 × zM) => fX12_hatch_L15 n s.1 s.2.1 s.2.2) (fun i => (nI i, xrA (dgV M) i, htM M R i)) 6 _ D hD6 (fun n i hi => m_hatchS hk hb hR hD hP n i hi) (fun n => ?_) 4000 (by omega)
  obtain ⟨a, -, -, -, -⟩ := htM_spec hk hR D hD
  have hg := GT_of (most := 6) hb
  have eh : gT M (min k 6) D = -1 := hg.1 D (by omega)
  show fX12_hatch_L15 (n + 1) (nI D) (xrA (dgV M) D) (htM M R D) = _
  simp only [fX12_hatch_L15, t_fine1 a, show ¬ (1 : Int32) = 0 by decide, if_false, zj, if_neg (nI_ne0 h0 (show D < 2 ^ 31 by omega)), t_here hg a, eh, Option.bind_some, if_true]
theorem m_hatchBad (hk : k ≤ 80) (hb : ∀ j, j < k → ∃ b : Nat, b < 256 ∧ M.1 2 j = nI b) (hR : TSt (gT M (min k 6)) k 6 R 0 none) (hD : D ≤ k) (hP : ∀ j, j < D → dP M j = true) (hF : D < k → dP M D = false) (h6 : D < 6) (hbad : D < k ∨ D = 0) : ∃ x y T, fX12_hatch_L15 4000 0 0 R = some (x, y, T) ∧ TSt (gT M (min k 6)) k 6 T D (some D) ∧ T.2 = R.2 ∧ (∀ q, q ≠ 36 → q ≠ 43 → T.1 q = R.1 q) ∧ ∀ j, j ≠ 16 → j ≠ 17 → T.1 36 j = R.1 36 j := by
  obtain ⟨a, b, c, d, -⟩ := htM_spec hk hR D hD
  have hg := GT_of (most := 6) hb
  have hs : sIn (gT M (min k 6) D) 48 57 = false := by
    rcases Nat.lt_or_ge D k with z | z
    · have := hF z
      unfold dP at this
      rw [gT_in (by omega)]
      simpa [h6] using this
    · rw [hg.1 D (by omega)]
      exact sIn_m1 (by omega)
  have e1 := t_oneF hg a (f := 48) (m := 10) (by omega) (by omega) hs
  have e1' : fX12_oneOf 48 10 (htM M R D) = some (0, zSI (htM M R D) 36 17 (nI D)) := e1
  generalize hT : zSI (zSI (htM M R D) 36 17 (nI D)) 43 D 0 = T
  have aT : TSt (gT M (min k 6)) k 6 T D (some D) := by subst hT; exact a.flt.SI (by decide) _
  refine ⟨nI (D + 1), xrA (dgV M) D ^^^ 0, T, ?_, aT, by subst hT; exact b, fun q q1 q2 => by subst hT; rw [zSI_other _ _ _ q2, zSI_other _ _ _ q1]; exact c q q1 q2, fun j j1 j2 => by subst hT; rw [zSI_other _ _ _ (by decide), gSI, if_neg (by omega)]; exact d j j1⟩
  refine zforE (fun n (s : Int32 × Int32 × zM) => fX12_hatch_L15 n s.1 s.2.1 s.2.2) (fun i => if i ≤ D then (nI i, xrA (dgV M) i, htM M R i) else (nI (D + 1), xrA (dgV M) D ^^^ 0, T)) 7 _ (D + 1) (by omega) (fun n i hi => ?_) (fun n => ?_) 4000 (by omega)
  · rcases Nat.lt_or_ge i D with z | z
    · simp only [if_pos (show i ≤ D by omega), if_pos (show i + 1 ≤ D by omega)]
      exact m_hatchS hk hb hR hD hP n i z
    · have : i = D := by omega
      subst this
      simp only [if_pos (Nat.le_refl i), if_neg (show ¬ i + 1 ≤ i by omega)]
      have i31 : i < 2 ^ 31 := by omega
      have ev : T.1 43 i = 0 := by subst hT; rw [gSI, if_pos ⟨rfl, rfl⟩]
      have tail : ((fX12_oneOf 48 10 (htM M R i)).bind fun (q : Int32 × zM) => zp q fun r5 M44 => if zin (nI i) 16 then (zlet (zSI M44 43 (nI i).toNatClampNeg r5) fun (M47 : zM) => zlet (xrA (dgV M) i ^^^ (M47.1 43 (nI i).toNatClampNeg)) fun (x2_56 : Int32) => fX12_hatch_L15 n (nI i + 1) x2_56 M47) else none) = fX12_hatch_L15 n (nI (i + 1)) (xrA (dgV M) i ^^^ 0) T := by
        rw [e1']
        simp only [Option.bind_some, zp, if_pos (zinT (show i < 16 by omega) i31), nI_clamp i31, zlet, hT, ev, nI_1]
      rcases hbad with z | z
      · have nh : ¬ gT M (min k 6) i = -1 := by
          obtain ⟨b, hb1, hb2⟩ := hb i z
          rw [gT_in (by omega), hb2]
          exact fun w => nI_ne_m1 (show b < 2 ^ 31 by omega) w.symm
        rw [← tail]
        simp only [fX12_hatch_L15, t_fine1 a, show ¬ (1 : Int32) = 0 by decide, if_false, zj, t_here hg a, Option.bind_some, if_neg nh, ite_self]
      · subst z
        rw [← tail]
        simp only [fX12_hatch_L15, t_fine1 a, show ¬ (1 : Int32) = 0 by decide, if_false, zj]
        rw [if_pos (show nI 0 = 0 from rfl)]
  · simp only [if_neg (show ¬ D + 1 ≤ D by omega), fX12_hatch_L15, t_fine0 aT, if_true]
end HT
theorem c_hatchX {M Y : zM} {k : Nat} (hk : k ≤ 6) (h35 : ∀ j, j < k → Y.1 35 j = dgV M j) : fX11_hatch_L37 (nI k) Y 4000 0 0 = some (xrA (dgV M) k) :=
  zfor (fun n (s : Int32 × Int32) => fX11_hatch_L37 (nI k) Y n s.1 s.2) (fun i => (xrA (dgV M) i, nI i)) k _
    (fun n i hi => by
      simp only [fX11_hatch_L37, if_neg (leF hi (by omega)), if_pos (zinT (show i < 6 by omega) (by omega)), nI_clamp (show i < 2 ^ 31 by omega), zlet, h35 i hi, nI_1, xrA])
    (fun n => by simp only [fX11_hatch_L37, if_pos (leT (Nat.le_refl k) (by omega))])
    k 0 4000 (by omega) (by omega)
theorem op_hatch {M : zM} {N : Nat} (h : RAll M N) : OpS fX11_hatch fX12_hatch M N := by
  have h0 := h
  obtain ⟨n, nd, h1, h2, h3, h4, h5, h6, h7, h8, h9⟩ := h
  obtain ⟨k, hk, x1, x9, xb, xt⟩ := h3.signs
  obtain ⟨D, hD, hP, hF⟩ := exD (dP M) k
  have hD6 : D ≤ 6 := by
    rcases Nat.lt_or_ge 6 D with h | h
    · have := (dP_sIn (hP 6 h)).1
      omega
    · exact h
  have ec := c_digits hk x1 hD hP hF
  obtain ⟨g1, g2, g3⟩ := dgM_spec M D
  generalize hC : zSI (dgM M D) 1 1 0 = C
  have kC : ∀ q, q ≠ 1 → q ≠ 35 → C.1 q = M.1 q := fun q a b => by subst hC; rw [zSI_other _ _ _ a, g2 q b]
  have c2 : C.2 = M.2 := by subst hC; exact g1
  have c11 : C.1 1 1 = 0 := by subst hC; rw [gSI, if_pos ⟨rfl, rfl⟩]
  have c35 : ∀ j, j < D → C.1 35 j = dgV M j := fun j hj => by subst hC; rw [zSI_other _ _ _ (by decide)]; exact g3 j hj
  -- the reference begins, over any memory of the class
  have beg : ∀ M1 : zM, (∀ q, 36 ≤ q → q < 59 → M1.1 q = M.1 q) → ∃ R, fX12_beginText 6 (zSI M1 36 12 0) = R ∧ TSt (gT M (min k 6)) k 6 R 0 none ∧ (∀ q, q ≠ 36 → R.1 q = M1.1 q) ∧ (∀ j, j ∉ [9, 12, 13, 14, 15, 16, 17] → R.1 36 j = M.1 36 j) ∧ R.2.1 = M1.2.1 ∧ (∀ j, j ≠ 13 → R.2.2 j = M1.2.2 j) ∧ R.1 36 9 = 0 := by
    intro M1 a1
    obtain ⟨R, e, t0, t1, t2, t3, t4, t5⟩ := t_begin (M := M) (R0 := zSI M1 36 12 0) (most := 6) hk (by omega) (by rw [gSI, if_neg (by omega), a1 36 (by omega) (by omega)]; exact x9) (fun j hj => by rw [zSI_other _ _ _ (by decide), a1 41 (by omega) (by omega), xt j hj])
    refine ⟨R, e, t0, fun q hq => by rw [t1 q hq, zSI_other _ _ _ hq], fun j hj => ?_, t3, t4, t5⟩
    simp at hj
    rw [t2 j (by simp; omega), gSI, if_neg (by omega), a1 36 (by omega) (by omega)]
  -- refused
  have no : (D < k ∨ D = 0) → OpS fX11_hatch fX12_hatch M N := by
    intro hbad
    have k1 : ∀ q, 36 ≤ q → q < 59 → C.1 q = M.1 q := fun q a b => kC q (by omega) (by omega)
    obtain ⟨R, e, t0, t1, t2, t3, t4, t5⟩ := beg C k1
    have fin : ∀ T : zM, T.1 36 17 = nI D → fX12_hatch C = some (-1 - nI D, T) → (∀ q, q ≠ 36 → q ≠ 43 → T.1 q = R.1 q) → (∀ j, j ≠ 16 → j ≠ 17 → T.1 36 j = R.1 36 j) → T.2 = R.2 → OpS fX11_hatch fX12_hatch M N := by
      intro T v17 eg s1 s2 s3
      refine ⟨-1 - nI D, C, T, ?_, eg, ?_⟩
      · unfold fX11_hatch
        rw [ec]
        simp only [Option.bind_some, zp]
        rw [show fX9_clear (dgM M D) = C from hC]
        simp only [zlet]
        rcases Nat.lt_or_ge D k with c | c
        · rw [if_pos c]
          have neg : -1 - nI D < 0 := by
            rw [Int32.lt_iff_toInt_lt]
            have : (-1 - nI D).toInt = -1 - D := (by decide +kernel : ∀ D, D < 7 → (-1 - nI D).toInt = -1 - (D : Int)) D (by omega)
            rw [this]
            have : (0 : Int32).toInt = 0 := by decide
            omega
          have neg2 : ¬ 0 < -1 - nI D := by
            rw [Int32.lt_iff_toInt_lt] at neg ⊢
            omega
          rw [if_neg neg2, if_neg ((ile_nlt _ _).mpr neg)]
        · have d0 : D = 0 := by omega
          subst d0
          have k0 : k = 0 := by omega
          subst k0
          rw [if_neg (show ¬ (0 : Nat) < 0 by omega), if_neg (show ¬ 0 < nI 0 by decide), if_pos (show 0 ≤ nI 0 by decide)]
          rfl
      · have sm : Sm [1, 35, 43] [9, 12, 13, 14, 15, 16, 17] M T := ⟨fun q a b => by simp at b; rw [s1 q a (by omega), t1 q a, kC q (by omega) (by omega)], fun j hj => by simp at hj; rw [s2 j (by omega) (by omega), t2 j (by simp; omega)], by rw [s3, t4 19 (by omega), c2], by rw [s3, t4 20 (by omega), c2]⟩
        exact h0.text sm rfl rfl rfl rfl rfl rfl rfl rfl rfl rfl rfl rfl (by rw [sm.1 0 (by decide) (by decide)]) (by rw [sm.1 0 (by decide) (by decide)]) (by rw [s1 1 (by omega) (by omega), t1 1 (by omega)]; exact c11) (by rw [s2 9 (by omega) (by omega)]; exact t5) (h4.of (sm.1 3 (by decide) (by decide)) (sm.2.1 11 (by decide)) (by rw [s3, t3, c2]))
    rcases Nat.lt_or_ge D 6 with c6 | c6
    · obtain ⟨y, z, T, e2, aT, s1, s2, s3⟩ := m_hatchBad hk xb t0 hD hP hF c6 hbad
      have v17 : T.1 36 17 = nI D := aT.1.2.2.2
      refine fin T v17 ?_ s2 s3 s1
      unfold fX12_hatch
      simp only [zlet, e, e2, Option.bind_some, zp, t_right0 aT, if_true, v17]
    · have d6 : D = 6 := by omega
      have e2 := m_hatchGood hk xb t0 hD hP (by omega) (Or.inl d6)
      obtain ⟨a, b, c, d, -⟩ := htM_spec hk t0 D hD
      have lt : D < k := by omega
      refine fin (zSI (htM M R D) 36 17 (nI D)) (by rw [gSI, if_pos ⟨rfl, rfl⟩]) ?_ (fun q q1 q2 => by rw [zSI_other _ _ _ q1]; exact c q q1 q2) (fun j j1 j2 => by rw [gSI, if_neg (by omega)]; exact d j j1) b
      unfold fX12_hatch
      have v17 : (zSI (htM M R D) 36 17 (nI D)).1 36 17 = nI D := by rw [gSI, if_pos ⟨rfl, rfl⟩]
      simp only [zlet, e, e2, Option.bind_some, zp, t_rightF a lt, if_true, v17]
  rcases Nat.lt_or_ge D k with hlt | hge
  · exact no (Or.inl hlt)
  · rcases Nat.eq_zero_or_pos D with hz | hz
    · exact no (Or.inr hz)
    · -- it is told rightly
      have ek : D = k := by omega
      subst ek
      generalize hs : xrA (dgV M) D = s
      -- the first bay that can be taken from
      obtain ⟨E, hE, eP, eF⟩ := exD (fun j => !decide (dgV M j ^^^ s < dgV M j)) D
      have nP : ∀ j, j < E → ¬ dgV M j ^^^ s < dgV M j := fun j hj => by
        have := eP j hj
        simpa using this
      have nF : E < D → dgV M E ^^^ s < dgV M E := fun hh => by
        have := eF hh
        simpa using this
      have e6 : D ≤ 6 := hD6
      have hc : wpO (fX11_hatch M) (fun q => q.1 = (if E < D then 1 else 0) ∧ TC C q.2 ∧ CR q.2 (if E < D then [(nI E).toInt64, (dgV M E - (dgV M E ^^^ s)).toInt64] else [])) := by
        unfold fX11_hatch
        refine wpO_ek ec (wpO_pk (wpO_lk ?_))
        rw [if_neg (show ¬ D < D by omega), show fX9_clear (dgM M D) = C from hC]
        refine wpO_tk (show 0 < nI D from ltT (a := 0) hz (by omega)) (wpO_ek (c_hatchX e6 c35) (vC_begin (fun Y t1 r1 => ?_)))
        rw [hs]
        have y35 : ∀ j, j < D → Y.1 35 j = dgV M j := fun j hj => by rw [t1.1 35 (by omega)]; exact c35 j hj
        have stp : ∀ m i, i < E → fX11_hatch_L66 (nI D) s (m + 1) (nI i) Y = fX11_hatch_L66 (nI D) s m (nI (i + 1)) Y := fun m i hi => by
          simp only [fX11_hatch_L66, if_neg (leF (show i < D by omega) (by omega)), if_pos (zinT (show i < 6 by omega) (by omega)), nI_clamp (show i < 2 ^ 31 by omega), zlet, y35 i (by omega), if_pos ((ilt_nle _ _).mp (nP i hi)), nI_1]
        rcases Nat.lt_or_ge E D with c | c
        · rw [if_pos c, if_pos c]
          have last : ∀ m, wpO (fX11_hatch_L66 (nI D) s (m + 1) (nI E) Y) (fun q => ∃ Z, q = .inl (1, Z) ∧ TC Y Z ∧ CR Z [(nI E).toInt64, (dgV M E - (dgV M E ^^^ s)).toInt64]) := fun m => by
            simp only [fX11_hatch_L66, if_neg (leF c (show D < 2 ^ 31 by omega)), if_pos (zinT (show E < 6 by omega) (show E < 2 ^ 31 by omega)), nI_clamp (show E < 2 ^ 31 by omega), zlet, y35 E c, if_neg ((ile_nlt _ _).mpr (nF c))]
            refine vC_tell r1 (Nat.le_of_ble_eq_true rfl) (fun Y2 t2 r2 => ?_)
            rw [t2.1 35 (by omega), y35 E c]
            exact vC_tell r2 (Nat.le_of_ble_eq_true rfl) (fun Y3 t3 r3 => wpO_ret ⟨Y3, rfl, t2.trans t3, r3⟩)
          obtain ⟨q, eq, Z, rfl, tz, rz⟩ := last (4000 - E - 1)
          have run : fX11_hatch_L66 (nI D) s 4000 0 Y = some (.inl (1, Z)) := by
            refine zfor (fun m (i : Int32) => fX11_hatch_L66 (nI D) s m i Y) (fun i => nI i) E _ (fun m i hi => stp m i hi) (fun m => ?_) E 0 4000 (by omega) (by omega)
            obtain ⟨q2, eq2, Z2, rfl, tz2, rz2⟩ := last m
            have : fX11_hatch_L66 (nI D) s (4000 - E - 1 + 1) (nI E) Y = fX11_hatch_L66 (nI D) s (m + 1) (nI E) Y := by simp only [fX11_hatch_L66, if_neg (leF c (show D < 2 ^ 31 by omega)), if_pos (zinT (show E < 6 by omega) (show E < 2 ^ 31 by omega)), nI_clamp (show E < 2 ^ 31 by omega), zlet, y35 E c, if_neg ((ile_nlt _ _).mpr (nF c))]
            rw [← this]; exact eq
          exact wpO_ek run (wpO_ret ⟨rfl, t1.trans tz, rz⟩)
        · rw [if_neg (by omega), if_neg (by omega)]
          have eE : E = D := by omega
          have run : fX11_hatch_L66 (nI D) s 4000 0 Y = some (.inr Y) := by
            refine zfor (fun m (i : Int32) => fX11_hatch_L66 (nI D) s m i Y) (fun i => nI i) E _ (fun m i hi => stp m i hi) (fun m => ?_) E 0 4000 (by omega) (by omega)
            simp only [fX11_hatch_L66, if_pos (leT (show D ≤ E by omega) (by omega))]
          exact wpO_ek run (wpO_ret ⟨rfl, t1, r1⟩)
      obtain ⟨⟨r, M1⟩, ef, er, tM, cM⟩ := hc
      dsimp only at er tM cM
      have kM1 : ∀ q, q ≠ 1 → q ≠ 3 → q ≠ 35 → M1.1 q = M.1 q := fun q a b c => by rw [tM.1 q b, kC q a c]
      obtain ⟨R, e, t0, t1, t2, t3, t4, t5⟩ := beg M1 (fun q a b => kM1 q (by omega) (by omega) (by omega))
      have e2 := m_hatchGood hk xb t0 hD hP hz (Or.inr rfl)
      obtain ⟨a, b, c, d, e43⟩ := htM_spec hk t0 D hD
      rw [hs] at e2
      generalize htM M R D = T at e2 a b c d e43
      have hm : wpO (fX12_hatch M1) (fun q => q.1 = (if E < D then 1 else 0) ∧ TM T q.2 ∧ MR q.2 (if E < D then [(nI E).toInt64, (dgV M E - (dgV M E ^^^ s)).toInt64] else [])) := by
        unfold fX12_hatch
        refine wpO_lk (wpO_lk ?_)
        rw [e]
        refine wpO_ek e2 (wpO_pk (wpO_pk (wpO_lk ?_)))
        rw [t_rightK a rfl]
        refine wpO_fk (show ¬ (1 : Int32) = 0 by decide) (vM_begin (fun Y t1 r1 => ?_))
        have y43 : ∀ j, j < D → Y.1 43 j = dgV M j := fun j hj => by rw [t1.1 43 (by omega)]; exact e43 j hj
        by_cases s0 : s = 0
        · have nE : ¬ E < D := fun hh => by
            have := nF hh
            rw [s0, xor_0] at this
            exact absurd this ((ilt_nle _ _).mpr (by rw [Int32.le_iff_toInt_le]; omega))
          rw [if_neg nE, if_neg nE]
          have run : fX12_hatch_L84 (nI D) s 4000 0 Y = some (.inr Y) := by
            have : ∀ m, fX12_hatch_L84 (nI D) s (m + 1) 0 Y = some (.inr Y) := fun m => by
              simp only [fX12_hatch_L84, if_neg (show ¬ nI D ≤ 0 from leF (b := 0) hz (by omega)), if_pos s0]
            exact this 3999
          exact wpO_ek run (wpO_ret ⟨rfl, t1, r1⟩)
        · have stp : ∀ m i, i < E → fX12_hatch_L84 (nI D) s (m + 1) (nI i) Y = fX12_hatch_L84 (nI D) s m (nI (i + 1)) Y := fun m i hi => by
            simp only [fX12_hatch_L84, if_neg (leF (show i < D by omega) (by omega)), if_neg s0, if_pos (zinT (show i < 16 by omega) (by omega)), nI_clamp (show i < 2 ^ 31 by omega), y43 i (by omega), if_neg (nP i hi), nI_1]
          rcases Nat.lt_or_ge E D with c | c
          · rw [if_pos c, if_pos c]
            have last : ∀ m, wpO (fX12_hatch_L84 (nI D) s (m + 1) (nI E) Y) (fun q => ∃ Z, q = .inl (1, Z) ∧ TM Y Z ∧ MR Z [(nI E).toInt64, (dgV M E - (dgV M E ^^^ s)).toInt64]) := fun m => by
              simp only [fX12_hatch_L84, if_neg (leF c (show D < 2 ^ 31 by omega)), if_neg s0, if_pos (zinT (show E < 16 by omega) (show E < 2 ^ 31 by omega)), nI_clamp (show E < 2 ^ 31 by omega), y43 E c, if_pos (nF c)]
              refine vM_tell r1 (Nat.le_of_ble_eq_true rfl) (fun Y2 t2 r2 => ?_)
              rw [t2.1 43 (by omega), y43 E c]
              exact vM_tell r2 (Nat.le_of_ble_eq_true rfl) (fun Y3 t3 r3 => wpO_ret ⟨Y3, rfl, t2.trans t3, r3⟩)
            obtain ⟨q, eq, Z, rfl, tz, rz⟩ := last (4000 - E - 1)
            have run : fX12_hatch_L84 (nI D) s 4000 0 Y = some (.inl (1, Z)) := by
              refine zfor (fun m (i : Int32) => fX12_hatch_L84 (nI D) s m i Y) (fun i => nI i) E _ (fun m i hi => stp m i hi) (fun m => ?_) E 0 4000 (by omega) (by omega)
              have : fX12_hatch_L84 (nI D) s (4000 - E - 1 + 1) (nI E) Y = fX12_hatch_L84 (nI D) s (m + 1) (nI E) Y := by simp only [fX12_hatch_L84, if_neg (leF c (show D < 2 ^ 31 by omega)), if_neg s0, if_pos (zinT (show E < 16 by omega) (show E < 2 ^ 31 by omega)), nI_clamp (show E < 2 ^ 31 by omega), y43 E c, if_pos (nF c)]
              rw [← this]; exact eq
            exact wpO_ek run (wpO_ret ⟨rfl, t1.trans tz, rz⟩)
          · rw [if_neg (by omega), if_neg (by omega)]
            have run : fX12_hatch_L84 (nI D) s 4000 0 Y = some (.inr Y) := by
              refine zfor (fun m (i : Int32) => fX12_hatch_L84 (nI D) s m i Y) (fun i => nI i) E _ (fun m i hi => stp m i hi) (fun m => ?_) E 0 4000 (by omega) (by omega)
              simp only [fX12_hatch_L84, if_pos (leT (show D ≤ E by omega) (by omega))]
            exact wpO_ek run (wpO_ret ⟨rfl, t1, r1⟩)
      obtain ⟨⟨r', Z⟩, eg, er', tZ, mZ⟩ := hm
      dsimp only at er' tZ mZ
      refine ⟨r, M1, Z, ef, by rw [eg, er', er], ?_⟩
      have kZ : ∀ q, q ≠ 36 → q ≠ 43 → Z.1 q = M1.1 q := fun q q1 q2 => by rw [tZ.1 q q1, c q q1 q2, t1 q q1]
      have sm : Sm [1, 3, 35, 43] [9, 11, 12, 13, 14, 15, 16, 17] M Z := ⟨fun q q1 q2 => by simp at q2; rw [kZ q q1 (by omega), kM1 q (by omega) (by omega) (by omega)], fun j hj => by simp at hj; rw [tZ.2.1 j (by omega), d j (by omega), t2 j (by simp; omega)], by rw [tZ.2.2.2, b, t4 19 (by omega), tM.2.2, c2], by rw [tZ.2.2.2, b, t4 20 (by omega), tM.2.2, c2]⟩
      exact h0.text sm rfl rfl rfl rfl rfl rfl rfl rfl rfl rfl rfl rfl (by rw [sm.1 0 (by decide) (by decide)]) (by rw [sm.1 0 (by decide) (by decide)]) (by rw [kZ 1 (by omega) (by omega), tM.1 1 (by omega)]; exact c11) (by rw [tZ.2.1 9 (by omega), d 9 (by omega)]; exact t5) ⟨_, by split <;> simp, cM.fr (kZ 3 (by omega) (by omega)) (by rw [tZ.2.2.1 4 (by omega), b, t3]), mZ⟩
