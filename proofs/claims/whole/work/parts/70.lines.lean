/-! the reference reads lines of signs -/
def FrH (M N : zM) : Prop := (∀ q, q ≠ 36 → q ≠ 43 → N.1 q = M.1 q) ∧ (∀ j, j ≠ 16 → j ≠ 17 → N.1 36 j = M.1 36 j) ∧ N.2 = M.2
theorem FrH.trans {A B C : zM} (h : FrH A B) (g : FrH B C) : FrH A C := ⟨fun q a b => (g.1 q a b).trans (h.1 q a b), fun j a b => (g.2.1 j a b).trans (h.2.1 j a b), g.2.2.trans h.2.2⟩
theorem FrI.H {M N : zM} (h : FrI M N) : FrH M N := ⟨fun q a _ => h.1 q a, h.2.1, h.2.2⟩
theorem FrH.SI (M : zM) (j : Nat) (x : Int32) : FrH M (zSI M 43 j x) := ⟨fun q _ b => zSI_other _ _ _ b, fun _ _ _ => by rw [zSI_other _ _ _ (by decide)], rfl⟩
def lnM (g : Nat → Int32) (k most n : Nat) (R : zM) (o : Option (Int32 × zM)) : Nat ⊕ (List Nat × Nat) → Prop
  | .inl e => ∃ x T p, o = some (x, T) ∧ TSt g k most T p (some e) ∧ FrH R T
  | .inr (l, q) => ∃ T, o = some (nI (n + l.length), T) ∧ TSt g k most T q none ∧ (∀ i x, l[i]? = some x → T.1 43 (n + i) = nI x) ∧ FrH R T ∧ ∀ j, j < n → T.1 43 j = R.1 43 j
section LN
variable {g : Nat → Int32} {k most : Nat}
theorem m_deedsL {base many : Nat} (hg : GT g (min k most)) (hmany : many ≤ 8) : ∀ fl n p m R, base + n ≤ 6 → 6 - (base + n) < fl → fl + 1 < m → p ≤ min k most → R.1 36 1 = nI many → R.1 36 2 = nI base → TSt g k most R p none → lnM g k most n R (fX12_deeds_L24 m (nI n) 1 R) (pLn (rdS g 48 many) g base 6 fl n p)
  | 0, n, p, m, R, h1, h2, h3, hp, hm1, hb2, t => absurd h2 (by omega)
  | fl + 1, n, p, m, R, h1, h2, h3, hp, hm1, hb2, t => by
    obtain ⟨m, rfl⟩ : ∃ q, m = q + 1 := ⟨m - 1, by omega⟩
    obtain ⟨m, rfl⟩ : ∃ q, m = q + 1 := ⟨m - 1, by omega⟩
    have stop : ∀ (x : Int32) (T : zM), fX12_deeds_L24 (m + 1) x 0 T = some (x, T) := fun x T => by simp only [fX12_deeds_L24, if_true]
    have f1 := t_fine1 t
    unfold pLn
    by_cases c : base + n = 6
    · rw [if_pos c]
      refine ⟨nI (n + 1), zSI R 36 17 (nI p), p, ?_, t.flt, (FrI.flt R _).H⟩
      have c6 : R.1 36 2 + nI n = 6 := by rw [hb2, nI_add]; rw [c]; rfl
      simp only [fX12_deeds_L24, show ¬ (1 : Int32) = 0 by decide, if_false, f1, if_pos c6, zlet, t_fault1 t, t.1.2.2.1, Option.bind_some, t_passes0 t.flt, zp, nI_1]
      exact stop _ _
    · rw [if_neg c]
      have c6 : ¬ R.1 36 2 + nI n = 6 := by
        rw [hb2, nI_add]
        intro z
        have := (nI_eq (show base + n < 2 ^ 31 by omega) (show 6 < 2 ^ 31 by omega)).mp z
        omega
      have n31 : n < 2 ^ 31 := by omega
      have hr := m_rising (many := many) hg (f := 48) (Or.inl rfl) hmany hp t
      have ok := rise_ok (f := 48) (many := many) hg (by omega) 9 p 0 0 hp (by omega) (by omega) (Nat.two_pow_pos many)
      have erd : rdS g 48 many p = (match rise g 48 many 9 p 0 0 with | .inl q => .inl q | .inr (q, b) => if b = 0 then .inl q else .inr (q, b)) := rfl
      rw [erd]
      generalize rise g 48 many 9 p 0 0 = o at hr ok ⊢
      match o, hr, ok with
      | .inl q, ⟨x, T, e1, e2, e3⟩, ok =>
        have e1' : fX12_rising 48 (R.1 36 1) R = some (x, T) := by rw [hm1]; exact e1
        have tT : TSt g k most (zSI T 43 n x) q (some q) := e2.SI (by decide) _
        refine ⟨nI (n + 1), zSI T 43 n x, q, ?_, tT, e3.H.trans (FrH.SI T _ _)⟩
        simp only [fX12_deeds_L24, show ¬ (1 : Int32) = 0 by decide, if_false, f1, if_neg c6, e1', Option.bind_some, zp, if_pos (zinT (show n < 16 by omega) n31), nI_clamp n31, zlet, t_fine0 tT, if_true, t_passes0 tT, nI_1]
        all_goals exact stop _ _
      | .inr (q, b), ⟨T, e1, e2, e3⟩, ok =>
        have e1' : fX12_rising 48 (R.1 36 1) R = some (nI b, T) := by rw [hm1]; exact e1
        have tT : TSt g k most (zSI T 43 n (nI b)) q none := e2.SI (by decide) _
        have ev : (zSI T 43 n (nI b)).1 43 n = nI b := by rw [gSI, if_pos ⟨rfl, rfl⟩]
        have b256 : b < 256 := Nat.lt_of_lt_of_le ok.2.2.1 (pow_le_256 hmany)
        dsimp only
        by_cases b0 : b = 0
        · rw [if_pos b0]
          have z0 : nI b = 0 := by rw [b0]; rfl
          refine ⟨nI (n + 1), zSI (zSI T 43 n (nI b)) 36 17 (nI q), q, ?_, tT.flt, e3.H.trans ((FrH.SI T _ _).trans (FrI.flt _ _).H)⟩
          simp only [fX12_deeds_L24, show ¬ (1 : Int32) = 0 by decide, if_false, f1, if_neg c6, e1', Option.bind_some, zp, if_pos (zinT (show n < 16 by omega) n31), nI_clamp n31, zlet, t_fine1 tT, ev, if_pos z0, t_fault1 tT, tT.1.2.2.1, t_passes0 tT.flt, nI_1]
          exact stop _ _
        · rw [if_neg b0]
          have z0 : ¬ nI b = 0 := nI_ne0 (by omega) (by omega)
          dsimp only
          by_cases c59 : g q = 59
          · rw [if_pos c59]
            have qS : q < min k most := by
              rcases Nat.lt_or_ge q (min k most) with z | z
              · exact z
              · rw [hg.1 q z] at c59; exact absurd c59 (by decide)
            have ih := m_deedsL (base := base) (many := many) hg hmany fl (n + 1) (q + 1) (m + 1) (zSI (zSI T 43 n (nI b)) 36 16 (nI (q + 1))) (by omega) (by omega) (by omega) (by omega) (by rw [gSI, if_neg (by omega), zSI_other _ _ _ (by decide), e3.2.1 1 (by omega) (by omega)]; exact hm1) (by rw [gSI, if_neg (by omega), zSI_other _ _ _ (by decide), e3.2.1 2 (by omega) (by omega)]; exact hb2) (tT.adv (by omega))
            have body : fX12_deeds_L24 (m + 1 + 1) (nI n) 1 R = fX12_deeds_L24 (m + 1) (nI (n + 1)) 1 (zSI (zSI T 43 n (nI b)) 36 16 (nI (q + 1))) := by
              rw [fX12_deeds_L24.eq_2]
              simp only [show ¬ (1 : Int32) = 0 by decide, if_false, f1, if_neg c6, e1', Option.bind_some, zp, if_pos (zinT (show n < 16 by omega) n31), nI_clamp n31, zlet, t_fine1 tT, ev, if_neg z0, t_passes hg tT, if_pos c59, nI_1]
            rw [body]
            have fr : FrH R (zSI (zSI T 43 n (nI b)) 36 16 (nI (q + 1))) := e3.H.trans ((FrH.SI T _ _).trans (FrI.adv _ _).H)
            have k43 : ∀ j, j ≠ n → (zSI (zSI T 43 n (nI b)) 36 16 (nI (q + 1))).1 43 j = R.1 43 j := fun j hj => by rw [zSI_other _ _ _ (by decide), gSI, if_neg (by omega), e3.1 43 (by omega)]
            generalize pLn (rdS g 48 many) g base 6 fl (n + 1) (q + 1) = o2 at ih ⊢
            match o2, ih with
            | .inl e, ⟨x, T2, p2, g1, g2, g3⟩ => exact ⟨x, T2, p2, g1, g2, fr.trans g3⟩
            | .inr (l, e), ⟨T2, g1, g2, g3, g4, g5⟩ =>
              refine ⟨T2, ?_, g2, fun i x hi => ?_, fr.trans g4, fun j hj => by rw [g5 j (by omega), k43 j (by omega)]⟩
              · rw [g1, List.length_cons]
                congr 2
                exact congrArg nI (by omega)
              · cases i with
                | zero =>
                  cases hi
                  rw [Nat.add_zero, g5 n (by omega), zSI_other _ _ _ (by decide), gSI, if_pos ⟨rfl, rfl⟩]
                | succ i =>
                  have := g3 i x hi
                  rw [show n + (i + 1) = n + 1 + i by omega]; exact this
          · rw [if_neg c59]
            refine ⟨zSI T 43 n (nI b), ?_, tT, fun i x hi => ?_, e3.H.trans (FrH.SI T _ _), fun j hj => by rw [gSI, if_neg (by omega), e3.1 43 (by omega)]⟩
            · simp only [fX12_deeds_L24, show ¬ (1 : Int32) = 0 by decide, if_false, f1, if_neg c6, e1', Option.bind_some, zp, if_pos (zinT (show n < 16 by omega) n31), nI_clamp n31, zlet, t_fine1 tT, ev, if_neg z0, t_passes hg tT, if_neg c59, nI_1]
              exact stop _ _
            · cases i with
              | zero => cases hi; rw [Nat.add_zero, ev]
              | succ i => cases hi
theorem m_sharesL {base many : Nat} (hg : GT g (min k most)) (hmany : many ≤ 8) (hb0 : base = 0) (hm8 : many = 8) : ∀ fl n p m R, base + n ≤ 6 → 6 - (base + n) < fl → fl + 1 < m → p ≤ min k most → TSt g k most R p none → lnM g k most n R (fX12_shares_L26 m (nI n) 1 R) (pLn (rdS g 97 many) g base 6 fl n p)
  | 0, n, p, m, R, h1, h2, h3, hp, t => absurd h2 (by omega)
  | fl + 1, n, p, m, R, h1, h2, h3, hp, t => by
    obtain ⟨m, rfl⟩ : ∃ q, m = q + 1 := ⟨m - 1, by omega⟩
    obtain ⟨m, rfl⟩ : ∃ q, m = q + 1 := ⟨m - 1, by omega⟩
    have stop : ∀ (x : Int32) (T : zM), fX12_shares_L26 (m + 1) x 0 T = some (x, T) := fun x T => by simp only [fX12_shares_L26, if_true]
    have f1 := t_fine1 t
    unfold pLn
    by_cases c : base + n = 6
    · rw [if_pos c]
      refine ⟨nI (n + 1), zSI R 36 17 (nI p), p, ?_, t.flt, (FrI.flt R _).H⟩
      have c6 : nI n = 6 := by rw [show nI n = nI (base + n) by rw [hb0, Nat.zero_add]]; rw [c]; rfl
      simp only [fX12_shares_L26, show ¬ (1 : Int32) = 0 by decide, if_false, f1, if_pos c6, zlet, t_fault1 t, t.1.2.2.1, Option.bind_some, t_passes0 t.flt, zp, nI_1]
      exact stop _ _
    · rw [if_neg c]
      have c6 : ¬ nI n = 6 := by
        rw [show nI n = nI (base + n) by rw [hb0, Nat.zero_add]]
        intro z
        have := (nI_eq (show base + n < 2 ^ 31 by omega) (show 6 < 2 ^ 31 by omega)).mp z
        omega
      have n31 : n < 2 ^ 31 := by omega
      have hr := m_rising (many := many) hg (f := 97) (Or.inr rfl) hmany hp t
      have ok := rise_ok (f := 97) (many := many) hg (by omega) 9 p 0 0 hp (by omega) (by omega) (Nat.two_pow_pos many)
      have erd : rdS g 97 many p = (match rise g 97 many 9 p 0 0 with | .inl q => .inl q | .inr (q, b) => if b = 0 then .inl q else .inr (q, b)) := rfl
      rw [erd]
      generalize rise g 97 many 9 p 0 0 = o at hr ok ⊢
      match o, hr, ok with
      | .inl q, ⟨x, T, e1, e2, e3⟩, ok =>
        have e1' : fX12_rising 97 8 R = some (x, T) := by rw [hm8] at e1; exact e1
        have tT : TSt g k most (zSI T 43 n x) q (some q) := e2.SI (by decide) _
        refine ⟨nI (n + 1), zSI T 43 n x, q, ?_, tT, e3.H.trans (FrH.SI T _ _)⟩
        simp only [fX12_shares_L26, show ¬ (1 : Int32) = 0 by decide, if_false, f1, if_neg c6, e1', Option.bind_some, zp, if_pos (zinT (show n < 16 by omega) n31), nI_clamp n31, zlet, t_fine0 tT, if_true, t_passes0 tT, nI_1]
        all_goals exact stop _ _
      | .inr (q, b), ⟨T, e1, e2, e3⟩, ok =>
        have e1' : fX12_rising 97 8 R = some (nI b, T) := by rw [hm8] at e1; exact e1
        have tT : TSt g k most (zSI T 43 n (nI b)) q none := e2.SI (by decide) _
        have ev : (zSI T 43 n (nI b)).1 43 n = nI b := by rw [gSI, if_pos ⟨rfl, rfl⟩]
        have b256 : b < 256 := Nat.lt_of_lt_of_le ok.2.2.1 (pow_le_256 hmany)
        dsimp only
        by_cases b0 : b = 0
        · rw [if_pos b0]
          have z0 : nI b = 0 := by rw [b0]; rfl
          refine ⟨nI (n + 1), zSI (zSI T 43 n (nI b)) 36 17 (nI q), q, ?_, tT.flt, e3.H.trans ((FrH.SI T _ _).trans (FrI.flt _ _).H)⟩
          simp only [fX12_shares_L26, show ¬ (1 : Int32) = 0 by decide, if_false, f1, if_neg c6, e1', Option.bind_some, zp, if_pos (zinT (show n < 16 by omega) n31), nI_clamp n31, zlet, t_fine1 tT, ev, if_pos z0, t_fault1 tT, tT.1.2.2.1, t_passes0 tT.flt, nI_1]
          exact stop _ _
        · rw [if_neg b0]
          have z0 : ¬ nI b = 0 := nI_ne0 (by omega) (by omega)
          dsimp only
          by_cases c59 : g q = 59
          · rw [if_pos c59]
            have qS : q < min k most := by
              rcases Nat.lt_or_ge q (min k most) with z | z
              · exact z
              · rw [hg.1 q z] at c59; exact absurd c59 (by decide)
            have ih := m_sharesL (base := base) (many := many) hg hmany hb0 hm8 fl (n + 1) (q + 1) (m + 1) (zSI (zSI T 43 n (nI b)) 36 16 (nI (q + 1))) (by omega) (by omega) (by omega) (by omega) (tT.adv (by omega))
            have body : fX12_shares_L26 (m + 1 + 1) (nI n) 1 R = fX12_shares_L26 (m + 1) (nI (n + 1)) 1 (zSI (zSI T 43 n (nI b)) 36 16 (nI (q + 1))) := by
              rw [fX12_shares_L26.eq_2]
              simp only [show ¬ (1 : Int32) = 0 by decide, if_false, f1, if_neg c6, e1', Option.bind_some, zp, if_pos (zinT (show n < 16 by omega) n31), nI_clamp n31, zlet, t_fine1 tT, ev, if_neg z0, t_passes hg tT, if_pos c59, nI_1]
            rw [body]
            have fr : FrH R (zSI (zSI T 43 n (nI b)) 36 16 (nI (q + 1))) := e3.H.trans ((FrH.SI T _ _).trans (FrI.adv _ _).H)
            have k43 : ∀ j, j ≠ n → (zSI (zSI T 43 n (nI b)) 36 16 (nI (q + 1))).1 43 j = R.1 43 j := fun j hj => by rw [zSI_other _ _ _ (by decide), gSI, if_neg (by omega), e3.1 43 (by omega)]
            generalize pLn (rdS g 97 many) g base 6 fl (n + 1) (q + 1) = o2 at ih ⊢
            match o2, ih with
            | .inl e, ⟨x, T2, p2, g1, g2, g3⟩ => exact ⟨x, T2, p2, g1, g2, fr.trans g3⟩
            | .inr (l, e), ⟨T2, g1, g2, g3, g4, g5⟩ =>
              refine ⟨T2, ?_, g2, fun i x hi => ?_, fr.trans g4, fun j hj => by rw [g5 j (by omega), k43 j (by omega)]⟩
              · rw [g1, List.length_cons]
                congr 2
                exact congrArg nI (by omega)
              · cases i with
                | zero =>
                  cases hi
                  rw [Nat.add_zero, g5 n (by omega), zSI_other _ _ _ (by decide), gSI, if_pos ⟨rfl, rfl⟩]
                | succ i =>
                  have := g3 i x hi
                  rw [show n + (i + 1) = n + 1 + i by omega]; exact this
          · rw [if_neg c59]
            refine ⟨zSI T 43 n (nI b), ?_, tT, fun i x hi => ?_, e3.H.trans (FrH.SI T _ _), fun j hj => by rw [gSI, if_neg (by omega), e3.1 43 (by omega)]⟩
            · simp only [fX12_shares_L26, show ¬ (1 : Int32) = 0 by decide, if_false, f1, if_neg c6, e1', Option.bind_some, zp, if_pos (zinT (show n < 16 by omega) n31), nI_clamp n31, zlet, t_fine1 tT, ev, if_neg z0, t_passes hg tT, if_neg c59, nI_1]
              exact stop _ _
            · cases i with
              | zero => cases hi; rw [Nat.add_zero, ev]
              | succ i => cases hi
end LN
