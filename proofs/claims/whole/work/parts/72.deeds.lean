/-! deeds -/
theorem RK.bump {M Z : zM} {n n' m : Nat} (h : RK M n m) (hm : m < 1000) (e12 : ∀ i, i < 2 → Z.1 12 i = 0) (e37 : Z.1 36 37 = M.1 36 37 + 1) (e57 : Z.1 57 = M.1 57) (e58 : Z.1 58 = M.1 58) : RK Z n' (m + 1) := by
  obtain ⟨c, h1, h2, h3⟩ := h
  have e : Z.1 36 37 = nI (c + 1) := by rw [e37, h2, nI_1]
  refine ⟨c + 1, by omega, e, fun i hi => ?_⟩
  obtain ⟨a1, a2, ⟨ci, b1, b2⟩, a4, a5⟩ := h3 i hi
  rw [e12 i hi, e57, e58, e]
  refine ⟨Or.inl rfl, a2, ⟨ci, by omega, b2⟩, ⟨fun z => absurd z (by decide), fun z => ?_⟩, fun z => absurd z (by decide)⟩
  exfalso
  have := z.2
  rw [b2, nI_eq (by omega) (by omega)] at this
  omega
theorem RP.zero {Z : zM} {n x : Nat} (hx : x < 13) (e1 : Z.1 9 1 = nI x) (e2 : Z.1 9 2 = 0) (e3 : Z.1 36 25 = 0) : RP Z n := ⟨0, x, by omega, hx, e1, e2, e3, fun i hi => absurd hi (by omega)⟩
theorem p_forget (M : zM) : ∃ T, fX11_forgetThePast M = some T ∧ T.2 = M.2 ∧ (∀ q, q ≠ 9 → q ≠ 12 → T.1 q = M.1 q) ∧ T.1 9 1 = M.1 9 1 ∧ T.1 9 2 = 0 ∧ ∀ i, i < 2 → T.1 12 i = 0 := by
  have key : ∃ T, fX11_forgetThePast_L10 4000 0 (zSI M 9 2 0) = some T ∧ T.2 = M.2 ∧ (∀ q, q ≠ 12 → T.1 q = (zSI M 9 2 0).1 q) ∧ ∀ i, i < 2 → T.1 12 i = 0 := by
    refine zforI (fun n (s : Int32 × zM) => fX11_forgetThePast_L10 n s.1 s.2) (fun i s => s.1 = nI i ∧ s.2.2 = M.2 ∧ (∀ q, q ≠ 12 → s.2.1 q = (zSI M 9 2 0).1 q) ∧ ∀ j, j < i → s.2.1 12 j = 0) 2 (fun r => ∃ T, r = some T ∧ T.2 = M.2 ∧ (∀ q, q ≠ 12 → T.1 q = (zSI M 9 2 0).1 q) ∧ ∀ i, i < 2 → T.1 12 i = 0) ?_ ?_ 2 0 4000 (0, zSI M 9 2 0) rfl (by omega) ⟨rfl, rfl, fun _ _ => rfl, fun j hj => absurd hj (by omega)⟩
    · rintro n i ⟨b, T⟩ hi ⟨q1, q2, q3, q4⟩
      dsimp only at q1 q2 q3 q4 ⊢
      subst q1
      refine ⟨(nI (i + 1), zSI T 12 i 0), ⟨rfl, q2, fun q hq => by rw [zSI_other _ _ _ hq]; exact q3 q hq, fun j hj => ?_⟩, ?_⟩
      · show (zSI T 12 i 0).1 12 j = 0
        rw [gSI]
        by_cases c : j = i
        · rw [if_pos ⟨rfl, c⟩]
        · rw [if_neg (fun z => c z.2)]; exact q4 j (by omega)
      · simp only [fX11_forgetThePast_L10, if_neg (show ¬ 2 ≤ nI i from leF (a := 2) hi (by omega)), if_pos (zinT hi (show i < 2 ^ 31 by omega)), nI_clamp (show i < 2 ^ 31 by omega), zlet, nar_b0, nI_1]
    · rintro n ⟨b, T⟩ ⟨q1, q2, q3, q4⟩
      dsimp only at q1 q2 q3 q4 ⊢
      subst q1
      exact ⟨T, by simp only [fX11_forgetThePast_L10, if_pos (show 2 ≤ nI 2 from leT (a := 2) (Nat.le_refl 2) (by omega))], q2, q3, q4⟩
  obtain ⟨T, e, a, b, c⟩ := key
  refine ⟨T, by unfold fX11_forgetThePast; simp only [zlet, e, Option.bind_some], a, fun q q1 q2 => by rw [b q q2, zSI_other _ _ _ q1], ?_, ?_, c⟩
  · rw [b 9 (by omega), gSI, if_neg (by omega)]
  · rw [b 9 (by omega), gSI, if_pos ⟨rfl, rfl⟩]
theorem negE : ∀ e, e ≤ 80 → -1 - nI e ≤ 0 := by decide +kernel
/-- the deeds come into their row -/
theorem m_deedsC {R : zM} {nd L : Nat} (h2 : R.1 36 2 = nI nd) (hL : nd + L ≤ 6) : ∃ T, fX12_deeds_L126 (nI L) 4000 0 R = some T ∧ T.2 = R.2 ∧ (∀ q, q ≠ 36 → q ≠ 40 → T.1 q = R.1 q) ∧ (∀ j, j ≠ 2 → T.1 36 j = R.1 36 j) ∧ T.1 36 2 = nI (nd + L) ∧ (∀ j, j < nd → T.1 40 j = R.1 40 j) ∧ ∀ j, j < L → T.1 40 (nd + j) = R.1 43 j := by
  refine zforI (fun n (s : Int32 × zM) => fX12_deeds_L126 (nI L) n s.1 s.2) (fun i s => s.1 = nI i ∧ s.2.2 = R.2 ∧ (∀ q, q ≠ 36 → q ≠ 40 → s.2.1 q = R.1 q) ∧ (∀ j, j ≠ 2 → s.2.1 36 j = R.1 36 j) ∧ s.2.1 36 2 = nI (nd + i) ∧ (∀ j, j < nd → s.2.1 40 j = R.1 40 j) ∧ ∀ j, j < i → s.2.1 40 (nd + j) = R.1 43 j) L (fun r => ∃ T, r = some T ∧ T.2 = R.2 ∧ (∀ q, q ≠ 36 → q ≠ 40 → T.1 q = R.1 q) ∧ (∀ j, j ≠ 2 → T.1 36 j = R.1 36 j) ∧ T.1 36 2 = nI (nd + L) ∧ (∀ j, j < nd → T.1 40 j = R.1 40 j) ∧ ∀ j, j < L → T.1 40 (nd + j) = R.1 43 j) ?_ ?_ L 0 4000 (0, R) (by omega) (by omega) ⟨rfl, rfl, fun _ _ _ => rfl, fun _ _ => rfl, h2, fun _ _ => rfl, fun j hj => absurd hj (by omega)⟩
  · rintro n i ⟨b, T⟩ hi ⟨q1, q2, q3, q4, q5, q6, q7⟩
    dsimp only at q1 q2 q3 q4 q5 q6 q7 ⊢
    subst q1
    have e2 : (zSI T 40 (nd + i) (R.1 43 i)).1 36 2 = nI (nd + i) := by rw [zSI_other _ _ _ (by decide)]; exact q5
    refine ⟨(nI (i + 1), zSI (zSI T 40 (nd + i) (R.1 43 i)) 36 2 (nI (nd + i + 1))), ⟨rfl, q2, fun q a b => by rw [zSI_other _ _ _ a, zSI_other _ _ _ b]; exact q3 q a b, fun j hj => by rw [gSI, if_neg (by omega), zSI_other _ _ _ (by decide)]; exact q4 j hj, by rw [gSI, if_pos ⟨rfl, rfl⟩]; rfl, fun j hj => by rw [zSI_other _ _ _ (by decide), gSI, if_neg (by omega)]; exact q6 j hj, fun j hj => ?_⟩, ?_⟩
    · rw [zSI_other _ _ _ (by decide), gSI]
      by_cases c : j = i
      · subst c; rw [if_pos ⟨rfl, rfl⟩]
      · rw [if_neg (by omega)]; exact q7 j (by omega)
    · simp only [fX12_deeds_L126, if_neg (leF hi (show L < 2 ^ 31 by omega)), if_pos (zinT (show i < 16 by omega) (show i < 2 ^ 31 by omega)), nI_clamp (show i < 2 ^ 31 by omega), q5, if_pos (zinT (show nd + i < 6 by omega) (show nd + i < 2 ^ 31 by omega)), nI_clamp (show nd + i < 2 ^ 31 by omega), zlet, q3 43 (by omega) (by omega), e2, nI_1]
  · rintro n ⟨b, T⟩ ⟨q1, q2, q3, q4, q5, q6, q7⟩
    dsimp only at q1 q2 q3 q4 q5 q6 q7 ⊢
    subst q1
    exact ⟨T, by simp only [fX12_deeds_L126, if_pos (leT (Nat.le_refl L) (by omega))], q2, q3, q4, q5, q6, q7⟩
theorem op_deeds {M : zM} {N : Nat} (hN : N < 1000) (h : RAll M N) : OpS fX11_deeds fX12_deeds M N := by
  have h0 := h
  obtain ⟨n, nd, h1, h2, h3, h4, h5, h6, h7, h8, h9⟩ := h
  obtain ⟨k, hk, x1, x9, xb, xt⟩ := h3.signs
  have hn8 := h1.1.1
  have hd6 := h1.1.2
  -- the reference begins, over any memory of the class
  have beg : ∀ M1 : zM, (∀ q, 36 ≤ q → q < 59 → M1.1 q = M.1 q) → ∃ R, fX12_beginText 53 (zSI M1 36 12 0) = R ∧ TSt (gT M (min k 53)) k 53 R 0 none ∧ (∀ q, q ≠ 36 → R.1 q = M1.1 q) ∧ (∀ j, j ∉ [9, 12, 13, 14, 15, 16, 17] → R.1 36 j = M.1 36 j) ∧ R.2.1 = M1.2.1 ∧ (∀ j, j ≠ 13 → R.2.2 j = M1.2.2 j) ∧ R.1 36 9 = 0 := by
    intro M1 a1
    obtain ⟨R, e, t0, t1, t2, t3, t4, t5⟩ := t_begin (M := M) (R0 := zSI M1 36 12 0) (most := 53) hk (by omega) (by rw [gSI, if_neg (by omega), a1 36 (by omega) (by omega)]; exact x9) (fun j hj => by rw [zSI_other _ _ _ (by decide), a1 41 (by omega) (by omega), xt j hj])
    refine ⟨R, e, t0, fun q hq => by rw [t1 q hq, zSI_other _ _ _ hq], fun j hj => ?_, t3, t4, t5⟩
    simp at hj
    rw [t2 j (by simp; omega), gSI, if_neg (by omega), a1 36 (by omega) (by omega)]
  -- nothing comes of it: the class's memory C, the reference's T
  have fin : ∀ r (C T : zM), fX11_deeds M = some (r, C) → fX12_deeds C = some (r, T) → (∀ q, q ≠ 1 → q ≠ 8 → C.1 q = M.1 q) → (∀ j, j < nd → C.1 8 j = M.1 8 j) → C.2 = M.2 → C.1 1 1 = 0 → (∀ q, q ≠ 36 → q ≠ 43 → T.1 q = C.1 q) → (∀ j, j ∉ [9, 12, 13, 14, 15, 16, 17] → T.1 36 j = M.1 36 j) → T.1 36 9 = 0 → T.2.1 = C.2.1 → (∀ j, j ≠ 13 → T.2.2 j = C.2.2 j) → OpS fX11_deeds fX12_deeds M N := by
    intro r C T e1 e2 c1 c2 c3 c4 d1 d2 d3 d4 d5
    refine ⟨r, C, T, e1, e2, ?_⟩
    have sm : Sm [1, 8, 43] [9, 12, 13, 14, 15, 16, 17] M T := ⟨fun q a b => by simp at b; rw [d1 q a (by omega), c1 q (by omega) (by omega)], fun j hj => d2 j hj, by rw [d5 19 (by omega), c3], by rw [d5 20 (by omega), c3]⟩
    refine ⟨n, nd, ?_, h2.sm sm rfl (by omega), RX.empty (by rw [d1 1 (by omega) (by omega)]; exact c4) d3, h4.of (sm.1 3 (by decide) (by decide)) (sm.2.1 11 (by decide)) (by rw [d4, c3]), h5.sm sm rfl rfl, (h6.sm sm rfl rfl).up, h7.sm sm (by rw [sm.1 0 (by decide) (by decide)]) (by rw [sm.1 0 (by decide) (by decide)]) rfl, h8.sm sm rfl rfl, h9.sm sm rfl rfl⟩
    obtain ⟨s1, s2, s3, s4, s5⟩ := h1
    refine ⟨s1, ?_, ?_, ?_, fun d hd => ?_⟩
    · rw [sm.1 5 (by decide) (by decide), sm.2.1 1 (by decide), sm.2.1 2 (by decide)]; exact s2
    · rw [sm.1 6 (by decide) (by decide), sm.1 38 (by decide) (by decide)]; exact s3
    · rw [sm.1 7 (by decide) (by decide), sm.1 39 (by decide) (by decide)]; exact s4
    · rw [d1 8 (by omega) (by omega), c2 d hd, sm.1 40 (by decide) (by decide)]; exact s5 d hd
  rcases Nat.eq_zero_or_pos k with hz | hz
  · subst hz
    obtain ⟨R, e, t0, t1, t2, t3, t4, t5⟩ := beg (zSI M 1 1 0) (fun q a b => by rw [zSI_other _ _ _ (by omega)])
    refine fin 0 (zSI M 1 1 0) R ?_ ?_ (fun q a _ => zSI_other _ _ _ a) (fun j _ => by rw [zSI_other _ _ _ (by decide)]) rfl (by rw [gSI, if_pos ⟨rfl, rfl⟩]) (fun q a _ => t1 q a) t2 t5 t3 t4
    · unfold fX11_deeds
      have ie : ¬ fX9_isEmpty M = 0 := by unfold fX9_isEmpty; rw [x1, if_pos (show nI 0 = 0 from rfl)]; decide
      rw [if_neg ie]
      rfl
    · unfold fX12_deeds
      simp only [zlet, e]
      rw [t0.1.1, if_pos (show nI 0 = 0 from rfl)]
  · have ie : fX9_isEmpty M = 0 := by unfold fX9_isEmpty; rw [x1, if_neg (nI_ne0 hz (by omega))]
    have hg := GT_of (most := 53) xb
    obtain ⟨r, Ca, ec, cl, hr⟩ := c_sets (M := M) (most := 53) (a := 8) (cap := 6) (from0 := nd) (f := 48) (many := n) hk (by omega) x1 xb (Or.inl rfl) hn8 rfl (by decide) (by omega) hd6
    have ec' : fX9_readSets 48 (M.1 5 3) 53 8 (M.1 5 4) M = some (r, Ca) := by rw [h1.2.1.1, h1.2.1.2.2.1]; exact ec
    have mL : ∀ R : zM, TSt (gT M (min k 53)) k 53 R 0 none → R.1 36 1 = nI n → R.1 36 2 = nI nd → _ := fun R t a b => m_deedsL (base := nd) (many := n) hg hn8 (6 - nd + 1) 0 0 4000 R (by omega) (by omega) (by omega) (Nat.zero_le _) a b t
    have ok := pLn_ok (base := nd) (cap := 6) hg (fun p hp => rdS_ok (f := 48) (many := n) hg (by omega) hp) (6 - nd + 1) 0 0 (Nat.zero_le _) (by omega)
    generalize pLn (rdS (gT M (min k 53)) 48 n) (gT M (min k 53)) nd 6 (6 - nd + 1) 0 0 = o at hr mL ok
    -- refused at e
    have bad : ∀ e, e ≤ 80 → r = -1 - nI e → (∀ R : zM, TSt (gT M (min k 53)) k 53 R 0 none → R.1 36 1 = nI n → R.1 36 2 = nI nd → ∃ x T0 T, fX12_deeds_L24 4000 0 1 R = some (x, T0) ∧ fX12_wasRight T0 = (0, T) ∧ T.1 36 17 = nI e ∧ FrH R T) → OpS fX11_deeds fX12_deeds M N := by
      intro e he er hR
      obtain ⟨R, eb, t0, t1, t2, t3, t4, t5⟩ := beg (zSI Ca 1 1 0) (fun q a b => by rw [zSI_other _ _ _ (by omega), cl.2.1 q (by omega)])
      obtain ⟨x, T0, T, g1, g2, g3, g4⟩ := hR R t0 (by rw [t2 1 (by decide)]; exact h1.2.1.2.1) (by rw [t2 2 (by decide)]; exact h1.2.1.2.2.2)
      refine fin r (zSI Ca 1 1 0) T ?_ ?_ (fun q a b => by rw [zSI_other _ _ _ a, cl.2.1 q b]) (fun j hj => by rw [zSI_other _ _ _ (by decide)]; exact cl.2.2 j hj) cl.1 (by rw [gSI, if_pos ⟨rfl, rfl⟩]) (fun q a b => by rw [g4.1 q a b, t1 q a]) (fun j hj => by simp at hj; rw [g4.2.1 j (by omega) (by omega), t2 j (by simp; omega)]) (by rw [g4.2.1 9 (by omega) (by omega)]; exact t5) (by rw [g4.2.2, t3]) (fun j hj => by rw [g4.2.2, t4 j hj])
      · unfold fX11_deeds
        rw [if_pos ie, ec']
        simp only [Option.bind_some, zp, zlet]
        rw [if_pos (by rw [er]; exact negE e he)]
        rfl
      · unfold fX12_deeds
        simp only [zlet, eb]
        rw [t0.1.1, if_neg (nI_ne0 hz (by omega)), g1]
        simp only [Option.bind_some, zp, g2, if_true, g3, er]
    match o, hr, mL, ok with
    | .inl e, hr, mL, ok =>
      refine bad e (by have : e ≤ min k 53 := ok; omega) hr (fun R t a b => ?_)
      obtain ⟨x, T, p, g1, g2, g3⟩ := mL R t a b
      exact ⟨x, T, T, g1, t_right0 g2, g2.1.2.2.2, g3⟩
    | .inr (l, q), hr, mL, ok =>
      dsimp only at hr
      have okq : q ≤ min k 53 := ok.2.2.1
      by_cases c : q = k
      · rw [if_pos c] at hr
        obtain ⟨er, el⟩ := hr
        have okL := ok.2.1
        have ok1 := ok.1
        rw [Nat.add_zero] at okL
        -- the class
        generalize hC0 : zSI (zSI Ca 1 1 0) 5 4 (nI (nd + l.length)) = C0
        obtain ⟨C, ef, f1, f2, f3, f4, f5⟩ := p_forget C0
        have kC : ∀ q, q ≠ 1 → q ≠ 5 → q ≠ 8 → q ≠ 9 → q ≠ 12 → C.1 q = M.1 q := fun q a b c d e => by rw [f2 q d e]; subst hC0; rw [zSI_other _ _ _ b, zSI_other _ _ _ a, cl.2.1 q c]
        have cC2 : C.2 = M.2 := by rw [f1]; subst hC0; exact cl.1
        have e54 : (zSI Ca 1 1 0).1 5 4 = nI nd := by rw [zSI_other _ _ _ (by decide), cl.2.1 5 (by omega)]; exact h1.2.1.2.2.1
        have ecl : fX11_deeds M = some (r, C) := by
          unfold fX11_deeds
          rw [if_pos ie, ec']
          simp only [Option.bind_some, zp, zlet]
          rw [if_neg (by rw [er]; exact leF (b := 0) (show 0 < l.length by omega) (by omega))]
          rw [show (fX9_clear Ca) = zSI Ca 1 1 0 from rfl, e54, er, nI_add, hC0, ef]
          rfl
        -- the reference
        obtain ⟨R, eb, t0, t1, t2, t3, t4, t5⟩ := beg C (fun q a b => kC q (by omega) (by omega) (by omega) (by omega) (by omega))
        obtain ⟨T0, g1, g2, g3, g4, -⟩ := mL R t0 (by rw [t2 1 (by decide)]; exact h1.2.1.2.1) (by rw [t2 2 (by decide)]; exact h1.2.1.2.2.2)
        rw [Nat.zero_add] at g1
        obtain ⟨T1, d0, d1, d2, d3, d4, d5, d6⟩ := m_deedsC (R := T0) (nd := nd) (L := l.length) (by rw [g4.2.1 2 (by omega) (by omega), t2 2 (by decide)]; exact h1.2.1.2.2.2) okL
        generalize hZ : fX12_told T1 = Z
        have z37 : Z.1 36 37 = T1.1 36 37 + 1 := by
          subst hZ
          show (zSI (zSI T1 36 25 0) 36 37 ((zSI T1 36 25 0).1 36 37 + 1)).1 36 37 = _
          rw [gSI, if_pos ⟨rfl, rfl⟩, gSI, if_neg (by omega)]
        have z25 : Z.1 36 25 = 0 := by
          subst hZ
          show (zSI (zSI T1 36 25 0) 36 37 _).1 36 25 = _
          rw [gSI, if_neg (by omega), gSI, if_pos ⟨rfl, rfl⟩]
        have zq : ∀ q, q ≠ 36 → Z.1 q = T1.1 q := fun q hq => by
          subst hZ
          show (zSI (zSI T1 36 25 0) 36 37 _).1 q = _
          rw [zSI_other _ _ _ hq, zSI_other _ _ _ hq]
        have zj : ∀ j, j ≠ 25 → j ≠ 37 → Z.1 36 j = T1.1 36 j := fun j a b => by
          subst hZ
          show (zSI (zSI T1 36 25 0) 36 37 _).1 36 j = _
          rw [gSI, if_neg (by omega), gSI, if_neg (by omega)]
        have z2 : Z.2 = T1.2 := by subst hZ; rfl
        have kZ : ∀ q, q ≠ 36 → q ≠ 40 → q ≠ 43 → Z.1 q = C.1 q := fun q a b c => by rw [zq q a, d2 q a b, g4.1 q a c, t1 q a]
        have jZ : ∀ j, j ∉ [2, 9, 12, 13, 14, 15, 16, 17, 25, 37] → Z.1 36 j = M.1 36 j := fun j hj => by simp at hj; rw [zj j (by omega) (by omega), d3 j (by omega), g4.2.1 j (by omega) (by omega), t2 j (by simp; omega)]
        refine ⟨r, C, Z, ecl, ?_, ?_⟩
        · unfold fX12_deeds
          simp only [zlet, eb]
          rw [t0.1.1, if_neg (nI_ne0 hz (by omega)), show fX12_deeds_L24 4000 0 1 R = some (nI l.length, T0) from g1]
          simp only [Option.bind_some, zp, t_rightK g2 c, show ¬ (1 : Int32) = 0 by decide, if_false, d0, hZ, er]
        · have sm : Sm [1, 5, 8, 9, 12, 40, 43] [2, 9, 12, 13, 14, 15, 16, 17, 25, 37] M Z := ⟨fun q a b => by simp at b; rw [kZ q a (by omega) (by omega), kC q (by omega) (by omega) (by omega) (by omega) (by omega)], fun j hj => jZ j hj, by rw [z2, d1, g4.2.2, t4 19 (by omega), cC2], by rw [z2, d1, g4.2.2, t4 20 (by omega), cC2]⟩
          obtain ⟨u, x, p1, p2, p3, p4, p5, p6⟩ := h5
          refine ⟨n, nd + l.length, ?_, h2.sm sm rfl (by omega), RX.empty ?_ ?_, h4.of (sm.1 3 (by decide) (by decide)) (sm.2.1 11 (by decide)) (by rw [z2, d1, g4.2.2, t3, cC2]), RP.zero p2 ?_ ?_ z25, h6.bump hN (fun i hi => ?_) ?_ (sm.1 57 (by decide) (by decide)) (sm.1 58 (by decide) (by decide)), h7.sm sm (by rw [sm.1 0 (by decide) (by decide)]) (by rw [sm.1 0 (by decide) (by decide)]) rfl, h8.sm sm rfl rfl, h9.sm sm rfl rfl⟩
          · obtain ⟨s1, s2, s3, s4, s5⟩ := h1
            refine ⟨⟨s1.1, okL⟩, ⟨?_, ?_, ?_, ?_⟩, ?_, ?_, fun d hd => ?_⟩
            · rw [kZ 5 (by omega) (by omega) (by omega), f2 5 (by omega) (by omega)]; subst hC0; rw [gSI, if_neg (by omega), zSI_other _ _ _ (by decide), cl.2.1 5 (by omega)]; exact s2.1
            · rw [jZ 1 (by decide)]; exact s2.2.1
            · rw [kZ 5 (by omega) (by omega) (by omega), f2 5 (by omega) (by omega)]; subst hC0; rw [gSI, if_pos ⟨rfl, rfl⟩]
            · rw [zj 2 (by omega) (by omega)]; exact d4
            · rw [sm.1 6 (by decide) (by decide), sm.1 38 (by decide) (by decide)]; exact s3
            · rw [sm.1 7 (by decide) (by decide), sm.1 39 (by decide) (by decide)]; exact s4
            · have k8 : Z.1 8 d = Ca.1 8 d := by rw [kZ 8 (by omega) (by omega) (by omega), f2 8 (by omega) (by omega)]; subst hC0; rw [zSI_other _ _ _ (by decide), zSI_other _ _ _ (by decide)]
              rw [k8, zq 40 (by omega)]
              rcases Nat.lt_or_ge d nd with z | z
              · rw [cl.2.2 d z, d5 d z, g4.1 40 (by omega) (by omega), t1 40 (by omega), kC 40 (by omega) (by omega) (by omega) (by omega) (by omega)]
                exact s5 d z
              · obtain ⟨i, rfl⟩ : ∃ i, d = nd + i := ⟨d - nd, by omega⟩
                have il : i < l.length := by omega
                have hi : l[i]? = some l[i] := List.getElem?_eq_getElem il
                have h43 := g3 i _ hi
                rw [Nat.zero_add] at h43
                rw [el i _ hi, d6 i il, h43]
                have hb := ok.2.2.2 l[i] (List.getElem_mem il)
                exact ⟨rfl, l[i], hb.1, hb.2, rfl⟩
          · rw [kZ 1 (by omega) (by omega) (by omega), f2 1 (by omega) (by omega)]; subst hC0; rw [zSI_other _ _ _ (by decide), gSI, if_pos ⟨rfl, rfl⟩]
          · rw [zj 9 (by omega) (by omega), d3 9 (by omega), g4.2.1 9 (by omega) (by omega)]; exact t5
          · rw [kZ 9 (by omega) (by omega) (by omega), f3]; subst hC0; rw [zSI_other _ _ _ (by decide), zSI_other _ _ _ (by decide), cl.2.1 9 (by omega)]; exact p3
          · rw [kZ 9 (by omega) (by omega) (by omega)]; exact f4
          · rw [kZ 12 (by omega) (by omega) (by omega)]; exact f5 i hi
          · rw [z37, d3 37 (by omega), g4.2.1 37 (by omega) (by omega), t2 37 (by decide)]
      · rw [if_neg c] at hr
        refine bad q (by omega) hr (fun R t a b => ?_)
        obtain ⟨T, g1, g2, g3, g4, -⟩ := mL R t a b
        refine ⟨_, T, zSI T 36 17 (nI q), g1, t_rightF g2 (by omega), by rw [gSI, if_pos ⟨rfl, rfl⟩], g4.trans (FrI.flt T _).H⟩
