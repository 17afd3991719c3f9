/-! things: the reading -/
def rdT (g : Nat → Int32) (p : Nat) : Nat ⊕ (Nat × (Nat × Nat)) := if sIn (g p) 49 57 = true then (match rise g 97 8 9 (p + 1) 0 0 with
  | .inl q => .inl q
  | .inr (q, b) => .inr (q, ((g p).toNatClampNeg - 48, b))) else .inl p
theorem rdT_ok {g : Nat → Int32} {S p : Nat} (hg : GT g S) (hp : p ≤ S) : rdOk S (fun b => (1 ≤ b.1 ∧ b.1 ≤ 9) ∧ b.2 < 256) p (rdT g p) := by
  unfold rdT
  by_cases c : sIn (g p) 49 57 = true
  · rw [if_pos c]
    obtain ⟨hpS, x, hx, x1, x2, e⟩ := hg.sIn (p := p) (by omega) (by omega) c
    have h := rise_ok (f := 97) (many := 8) hg (by omega) 9 (p + 1) 0 0 (by omega) (by omega) (by omega) (by omega)
    have ew : (g p).toNatClampNeg - 48 = x - 48 := by rw [e, nI_clamp (by omega)]
    rw [ew]
    generalize rise g 97 8 9 (p + 1) 0 0 = o at h ⊢
    match o, h with
    | .inl q, h => exact Nat.le_of_lt h.2
    | .inr (q, b), h => exact ⟨by have := h.1; omega, h.2.1, ⟨by show 1 ≤ x - 48; omega, by show x - 48 ≤ 9; omega⟩, h.2.2.1⟩
  · rw [if_neg c]; exact hp
def ltM (g : Nat → Int32) (k most n : Nat) (R : zM) (o : Option (Int32 × zM)) : Nat ⊕ (List (Nat × Nat) × Nat) → Prop
  | .inl e => ∃ x T p, o = some (x, T) ∧ TSt g k most T p (some e) ∧ FrH R T
  | .inr (l, q) => ∃ T, o = some (nI (n + l.length), T) ∧ TSt g k most T q none ∧ (∀ i x, l[i]? = some x → T.1 43 (2 * (n + i)) = nI x.1 ∧ T.1 43 (2 * (n + i) + 1) = nI x.2) ∧ FrH R T ∧ ∀ j, j < 2 * n → T.1 43 j = R.1 43 j
theorem m_thingsL {g : Nat → Int32} {k most base : Nat} (hg : GT g (min k most)) : ∀ fl n p m R, base + n ≤ 8 → 8 - (base + n) < fl → fl + 1 < m → p ≤ min k most → R.1 36 1 = nI base → TSt g k most R p none → ltM g k most n R (fX12_things_L24 m (nI n) 1 R) (pLn (rdT g) g base 8 fl n p) := by
  intro fl
  induction fl with
  | zero =>
    intro n p m R h1 h2
    exact absurd h2 (by omega)
  | succ fl ihL =>
    intro n p m R h1 h2 h3 hp hb t
    obtain ⟨m, rfl⟩ : ∃ q, m = q + 1 := ⟨m - 1, by omega⟩
    obtain ⟨m, rfl⟩ : ∃ q, m = q + 1 := ⟨m - 1, by omega⟩
    have stop : ∀ (x : Int32) (T : zM), fX12_things_L24 (m + 1) x 0 T = some (x, T) := fun x T => by simp only [fX12_things_L24, if_true]
    have f1 := t_fine1 t
    unfold pLn
    by_cases c : base + n = 8
    · rw [if_pos c]
      refine ⟨nI (n + 1), zSI R 36 17 (nI p), p, ?_, t.flt, (FrI.flt R _).H⟩
      have c6 : R.1 36 1 + nI n = 8 := by rw [hb, nI_add, c]; rfl
      simp only [fX12_things_L24, show ¬ (1 : Int32) = 0 by decide, if_false, f1, if_pos c6, zlet, t_fault1 t, t.1.2.2.1, Option.bind_some, t_passes0 t.flt, zp, nI_1]
      all_goals exact stop _ _
    · rw [if_neg c]
      have c6 : ¬ R.1 36 1 + nI n = 8 := by
        rw [hb, nI_add]
        intro z
        have := (nI_eq (show base + n < 2 ^ 31 by omega) (show 8 < 2 ^ 31 by omega)).mp z
        omega
      have n31 : 2 * n < 2 ^ 31 := by omega
      have e2n : (2 : Int32) * nI n = nI (2 * n) := pk_mul 2 n
      have e2n1 : nI (2 * n) + 1 = nI (2 * n + 1) := nI_1 _
      have in1 : zin (nI (2 * n)) 16 := zinT (by omega) n31
      have in2 : zin (nI (2 * n + 1)) 16 := zinT (by omega) (by omega)
      have erd : rdT g p = (if sIn (g p) 49 57 = true then (match rise g 97 8 9 (p + 1) 0 0 with | .inl q => .inl q | .inr (q, b) => .inr (q, ((g p).toNatClampNeg - 48, b))) else .inl p) := rfl
      rw [erd]
      by_cases cs : sIn (g p) 49 57 = true
      · obtain ⟨hpS, x, hx, x1, x2, e⟩ := hg.sIn (p := p) (by omega) (by omega) cs
        have eo := t_one1 hg t (f := 49) (m := 9) (by omega) (by omega) (by omega) cs
        have eo' : fX12_oneOf 49 9 R = some (nI (x - 49), zSI R 36 16 (nI (p + 1))) := by
          have : g p - nI 49 = nI (x - 49) := by rw [e, pk_sub x1]
          rw [this] at eo; exact eo
        have ew : (g p).toNatClampNeg - 48 = x - 48 := by rw [e, nI_clamp (by omega)]
        have ex : nI (x - 49) + 1 = nI (x - 48) := by rw [nI_1]; congr 1; omega
        generalize hR1 : zSI (zSI R 36 16 (nI (p + 1))) 43 (2 * n) (nI (x - 48)) = R1
        have t1 : TSt g k most R1 (p + 1) none := by subst hR1; exact (t.adv (by omega)).SI (by decide) _
        have fr1 : FrH R R1 := by subst hR1; exact (FrI.adv R _).H.trans (FrH.SI _ _ _)
        have r43 : ∀ j, R1.1 43 j = if j = 2 * n then nI (x - 48) else R.1 43 j := fun j => by
          subst hR1
          rw [gSI]
          by_cases z : j = 2 * n
          · rw [if_pos ⟨rfl, z⟩, if_pos z]
          · rw [if_neg (fun w => z w.2), if_neg z, zSI_other _ _ _ (by decide)]
        have hr := m_rising (f := 97) (many := 8) hg (Or.inr rfl) (by omega) (show p + 1 ≤ min k most by omega) t1
        rw [if_pos cs, ew]
        have pre : ∀ (y : Int32) (T : zM), fX12_rising 97 8 R1 = some (y, T) → fX12_things_L24 (m + 1 + 1) (nI n) 1 R = (fX12_passes 59 (zSI T 43 (2 * n + 1) y)).bind (fun q => zp q fun r9 M99 => fX12_things_L24 (m + 1) (nI (n + 1)) r9 M99) := fun y T er => by
          rw [fX12_things_L24.eq_2]
          simp only [show ¬ (1 : Int32) = 0 by decide, if_false, f1, if_neg c6, eo', Option.bind_some, zp, e2n, if_pos in1, nI_clamp n31, zlet, ex, hR1, er, e2n1, if_pos in2, nI_clamp (show 2 * n + 1 < 2 ^ 31 by omega), nI_1]
        generalize rise g 97 8 9 (p + 1) 0 0 = o at hr ⊢
        match o, hr with
        | .inl q, ⟨y, T, g1, g2, g3⟩ =>
          have g1' : fX12_rising 97 8 R1 = some (y, T) := g1
          have tT : TSt g k most (zSI T 43 (2 * n + 1) y) q (some q) := g2.SI (by decide) _
          refine ⟨nI (n + 1), zSI T 43 (2 * n + 1) y, q, ?_, tT, fr1.trans (g3.H.trans (FrH.SI T _ _))⟩
          rw [pre y T g1', t_passes0 tT]
          exact stop _ _
        | .inr (q, b), ⟨T, g1, g2, g3⟩ =>
          have g1' : fX12_rising 97 8 R1 = some (nI b, T) := g1
          have tT : TSt g k most (zSI T 43 (2 * n + 1) (nI b)) q none := g2.SI (by decide) _
          have fr2 : FrH R (zSI T 43 (2 * n + 1) (nI b)) := fr1.trans (g3.H.trans (FrH.SI T _ _))
          have v43 : ∀ j, (zSI T 43 (2 * n + 1) (nI b)).1 43 j = if j = 2 * n + 1 then nI b else if j = 2 * n then nI (x - 48) else R.1 43 j := fun j => by
            rw [gSI]
            by_cases z : j = 2 * n + 1
            · rw [if_pos ⟨rfl, z⟩, if_pos z]
            · rw [if_neg (fun w => z w.2), if_neg z, g3.1 43 (by omega), r43]
          dsimp only
          by_cases c59 : g q = 59
          · rw [if_pos c59]
            have qS : q < min k most := by
              rcases Nat.lt_or_ge q (min k most) with z | z
              · exact z
              · rw [hg.1 q z] at c59; exact absurd c59 (by decide)
            have ih := ihL (n + 1) (q + 1) (m + 1) (zSI (zSI T 43 (2 * n + 1) (nI b)) 36 16 (nI (q + 1))) (by omega) (by omega) (by omega) (by omega) (by rw [gSI, if_neg (by omega), fr2.2.1 1 (by omega) (by omega)]; exact hb) (tT.adv (by omega))
            rw [pre _ T g1', t_passes hg tT, if_pos c59]
            have fr : FrH R (zSI (zSI T 43 (2 * n + 1) (nI b)) 36 16 (nI (q + 1))) := fr2.trans (FrI.adv _ _).H
            generalize pLn (rdT g) g base 8 fl (n + 1) (q + 1) = o2 at ih ⊢
            match o2, ih with
            | .inl e', ⟨y, T2, p2, i1, i2, i3⟩ => exact ⟨y, T2, p2, i1, i2, fr.trans i3⟩
            | .inr (l, e'), ⟨T2, i1, i2, i3, i4, i5⟩ =>
              refine ⟨T2, ?_, i2, fun i y hi => ?_, fr.trans i4, fun j hj => by rw [i5 j (by omega), zSI_other _ _ _ (by decide), v43, if_neg (by omega), if_neg (by omega)]⟩
              · rw [List.length_cons, show n + (l.length + 1) = n + 1 + l.length by omega]
                exact i1
              · cases i with
                | zero =>
                  cases hi
                  simp only [Nat.add_zero]
                  rw [i5 (2 * n) (by omega), i5 (2 * n + 1) (by omega), zSI_other _ _ _ (by decide), v43, v43, if_neg (by omega), if_pos rfl, if_pos rfl]
                  exact ⟨rfl, rfl⟩
                | succ i =>
                  have := i3 i y hi
                  rw [show n + (i + 1) = n + 1 + i by omega]; exact this
          · rw [if_neg c59]
            refine ⟨zSI T 43 (2 * n + 1) (nI b), ?_, tT, fun i y hi => ?_, fr2, fun j hj => by rw [v43, if_neg (by omega), if_neg (by omega)]⟩
            · rw [pre _ T g1', t_passes hg tT, if_neg c59]
              exact stop _ _
            · cases i with
              | zero =>
                cases hi
                simp only [Nat.add_zero]
                rw [v43, v43, if_neg (by omega), if_pos rfl, if_pos rfl]
                exact ⟨rfl, rfl⟩
              | succ i => cases hi
      · rw [if_neg cs]
        have eo := t_oneF hg t (f := 49) (m := 9) (by omega) (by omega) (by simpa using cs)
        have eo' : fX12_oneOf 49 9 R = some (0, zSI R 36 17 (nI p)) := eo
        generalize hT : zSI (zSI (zSI R 36 17 (nI p)) 43 (2 * n) (0 + 1)) 43 (2 * n + 1) 0 = T
        have ta : TSt g k most (zSI (zSI R 36 17 (nI p)) 43 (2 * n) (0 + 1)) p (some p) := t.flt.SI (by decide) _
        have tT : TSt g k most T p (some p) := by subst hT; exact ta.SI (by decide) _
        refine ⟨nI (n + 1), T, p, ?_, tT, by subst hT; exact ((FrI.flt R _).H.trans (FrH.SI _ _ _)).trans (FrH.SI _ _ _)⟩
        rw [fX12_things_L24.eq_2]
        simp only [show ¬ (1 : Int32) = 0 by decide, if_false, f1, if_neg c6, eo', Option.bind_some, zp, e2n, if_pos in1, nI_clamp n31, zlet, m_rising0 ta, e2n1, if_pos in2, nI_clamp (show 2 * n + 1 < 2 ^ 31 by omega), hT, t_passes0 tT, nI_1]
        exact stop _ _
/-! the class -/
theorem p_signAt {M : zM} {k p : Nat} (h1 : M.1 1 1 = nI k) (hk : k ≤ 80) (hp : p < k) : fX9_signAt (nI p) M = some (M.1 2 p) := by
  unfold fX9_signAt
  rw [if_neg (nI_nneg (by omega)), h1, if_neg (leF hp (by omega)), if_pos (zinT (show p < 80 by omega) (by omega)), nI_clamp (by omega)]
section CT
variable {g : Nat → Int32} {stop k : Nat}
def riT (L : Nat → Int32 → Int32 → Int32 → Int32 → zM → Option ((Int32 × zM) ⊕ (Int32 × Int32 × zM))) (ln stop : Nat) (M : zM) (o : Option ((Int32 × zM) ⊕ (Int32 × Int32 × zM))) : Nat ⊕ (Nat × Nat) → Prop
  | .inl q => ∃ T, o = some (.inl (-1 - nI q, T)) ∧ Cg 6 ln M T
  | .inr (q, c) => ∃ T m lo, o = L m (nI ln) 0 (nI lo - 1) (nI q) T ∧ stop - q < m ∧ lo ≤ 8 ∧ T.1 6 ln = nI c ∧ Cg 6 ln M T
theorem t_rise (hg : GT g stop) (hst : stop ≤ k) (hk : k ≤ 80) {ln : Nat} (hln : ln < 8) : ∀ n p lo b m M, p ≤ stop → lo ≤ 8 → 9 ≤ lo + n → stop - p < m → M.1 1 1 = nI k → (∀ j, j < stop → M.1 2 j = g j) → M.1 6 ln = nI b → riT (fX7_readThings_L26 (nI stop)) ln stop M (fX7_readThings_L26 (nI stop) m (nI ln) 0 (nI lo - 1) (nI p) M) (rise g 97 8 n p lo b) := by
  intro n
  induction n with
  | zero =>
    intro p lo b m M hp hlo hn
    exact absurd hn (by omega)
  | succ n ihn =>
    intro p lo b m M hp hlo hn hm hM1 hM hb
    unfold rise
    by_cases c : sIn (g p) 97 (97 + 7) = true
    · rw [if_pos c]
      obtain ⟨hpS, x, hx, x1, x2, e⟩ := hg.sIn (p := p) (by omega) (by omega) c
      have ek : (g p).toNatClampNeg - 97 = x - 97 := by rw [e, nI_clamp (by omega)]
      rw [ek]
      obtain ⟨m, rfl⟩ : ∃ q, m = q + 1 := ⟨m - 1, by omega⟩
      have es : fX9_signAt (nI p) M = some (nI x) := by rw [p_signAt hM1 hk (by omega), hM p hpS, e]
      have n59 : ¬ nI x = 59 := fun z => by
        have := (nI_eq (show x < 2 ^ 31 by omega) (show 59 < 2 ^ 31 by omega)).mp z
        omega
      have ed : nI x - 97 = nI (x - 97) := pk_sub (b := 97) x1
      have body : fX7_readThings_L26 (nI stop) (m + 1) (nI ln) 0 (nI lo - 1) (nI p) M = if x - 97 < lo ∨ 8 ≤ x - 97 then some (.inl (-1 - nI p, M)) else fX7_readThings_L26 (nI stop) m (nI ln) 0 (nI (x - 97)) (nI (p + 1)) (zSI M 6 ln (nI (b ||| 2 ^ (x - 97)))) := by
        rw [fX7_readThings_L26.eq_2]
        simp only [if_neg (leF hpS (show stop < 2 ^ 31 by omega)), es, Option.bind_some, zlet, zj, zp, if_neg n59, if_true, ed, if_neg (show ¬ 104 < nI x from ltF (a := 104) (b := x) (by omega) (by omega)), if_neg (show ¬ 8 ≤ nI ln from leF (a := 8) hln (by omega)), if_pos (zinT hln (show ln < 2 ^ 31 by omega)), nI_clamp (show ln < 2 ^ 31 by omega), hb, zshl_2 (show x - 97 < 31 by omega), nI_or, nI_1]
        have c3 : (nI (x - 97) ≤ nI lo - 1) ↔ x - 97 < lo := le_pred (by omega) (by omega)
        by_cases d1 : x - 97 < lo
        · rw [if_pos (c3.mpr d1), if_pos (Or.inl d1)]
        · rw [if_neg (fun z => d1 (c3.mp z)), if_neg (by omega)]
      rw [body]
      by_cases c2 : x - 97 < lo ∨ 8 ≤ x - 97
      · rw [if_pos c2, if_pos c2]
        exact ⟨M, rfl, Cg.refl 6 ln M⟩
      · rw [if_neg c2, if_neg c2]
        have ih := ihn (p + 1) (x - 97 + 1) (b ||| 2 ^ (x - 97)) m (zSI M 6 ln (nI (b ||| 2 ^ (x - 97)))) (by omega) (by omega) (by omega) (by omega) (by rw [zSI_other _ _ _ (by decide)]; exact hM1) (fun j hj => by rw [zSI_other _ _ _ (by decide)]; exact hM j hj) (by rw [gSI, if_pos ⟨rfl, rfl⟩])
        rw [nI_pred] at ih
        have cg := Cg.SI 6 ln M (nI (b ||| 2 ^ (x - 97)))
        generalize rise g 97 8 n (p + 1) (x - 97 + 1) (b ||| 2 ^ (x - 97)) = o at ih
        match o, ih with
        | .inl q, ⟨T, i1, i2⟩ => exact ⟨T, i1, cg.trans i2⟩
        | .inr (q, d), ⟨T, m', lo', i1, i2, i4, i5, i6⟩ => exact ⟨T, m', lo', i1, i2, i4, i5, cg.trans i6⟩
    · rw [if_neg c]
      exact ⟨M, m, lo, rfl, hm, hlo, hb, Cg.refl 6 ln M⟩
/-- a sign that begins a line, of the class: for any sign of freshness -/
theorem t_fresh {x3 x4 x5 y : Int32} {p m ln : Nat} {M : zM} (h4 : ¬ x4 = 0) (e1 : x3 + 1 = nI ln) (hst : stop ≤ 80) (hps : p < stop) (es : fX9_signAt (nI p) M = some y) (hln : ln ≤ 8) : fX7_readThings_L26 (nI stop) (m + 1) x3 x4 x5 (nI p) M = if ln = 8 then some (.inl (-1 - nI p, M)) else if y < 49 then some (.inl (-1 - nI p, M)) else if y ≤ 57 then fX7_readThings_L26 (nI stop) m (nI ln) 0 (-1) (nI (p + 1)) (zSI (zSI M 7 ln (y - 48)) 6 ln 0) else some (.inl (-1 - nI p, M)) := by
  rw [fX7_readThings_L26.eq_2]
  simp only [if_neg (leF hps (show stop < 2 ^ 31 by omega)), es, Option.bind_some, zlet, zj, zp, if_neg h4, e1, nI_clamp (show ln < 2 ^ 31 by omega), nI_1]
  by_cases c : ln = 8
  · rw [if_pos (show 8 ≤ nI ln from leT (a := 8) (by omega) (by omega)), if_pos c]
  · rw [if_neg (show ¬ 8 ≤ nI ln from leF (a := 8) (by omega) (by omega)), if_neg c, if_pos (zinT (show ln < 8 by omega) (show ln < 2 ^ 31 by omega))]
def C2l (j0 : Nat) (M T : zM) : Prop := T.2 = M.2 ∧ (∀ q, q ≠ 6 → q ≠ 7 → T.1 q = M.1 q) ∧ ∀ j, j < j0 → T.1 6 j = M.1 6 j ∧ T.1 7 j = M.1 7 j
theorem C2l.refl (j0 : Nat) (M : zM) : C2l j0 M M := ⟨rfl, fun _ _ _ => rfl, fun _ _ => ⟨rfl, rfl⟩⟩
theorem C2l.trans {j0 j1 : Nat} {A B C : zM} (h : C2l j0 A B) (g : C2l j1 B C) (hj : j0 ≤ j1) : C2l j0 A C := ⟨g.1.trans h.1, fun q a b => (g.2.1 q a b).trans (h.2.1 q a b), fun j hj2 => ⟨(g.2.2 j (by omega)).1.trans (h.2.2 j hj2).1, (g.2.2 j (by omega)).2.trans (h.2.2 j hj2).2⟩⟩
theorem Cg.C2 {ln : Nat} {M T : zM} (h : Cg 6 ln M T) : C2l ln M T := ⟨h.1, fun q a _ => h.2.1 q a, fun j hj => ⟨h.2.2 j (by omega), by rw [h.2.1 7 (by omega)]⟩⟩
def ltC (from0 stop n : Nat) (M : zM) (o : rsT) : Nat ⊕ (List (Nat × Nat) × Nat) → Prop
  | .inl e => (∃ T, o = some (.inl (-1 - nI e, T)) ∧ C2l (from0 + n) M T) ∨ (e = stop ∧ ∃ x T, o = some (.inr (x, 1, T)) ∧ C2l (from0 + n) M T)
  | .inr (l, q) => (q < stop ∧ ∃ T, o = some (.inl (-1 - nI q, T)) ∧ C2l (from0 + n) M T) ∨ (q = stop ∧ ∃ T, o = some (.inr (nI (from0 + n + l.length) - 1, 0, T)) ∧ C2l (from0 + n) M T ∧ ∀ i x, l[i]? = some x → T.1 7 (from0 + n + i) = nI x.1 ∧ T.1 6 (from0 + n + i) = nI x.2)
theorem t_lines {from0 : Nat} (hg : GT g stop) (hst : stop ≤ k) (hk : k ≤ 80) : ∀ fl n p m M x5, from0 + n ≤ 8 → 8 - (from0 + n) < fl → p ≤ stop → stop - p < m → M.1 1 1 = nI k → (∀ j, j < stop → M.1 2 j = g j) → ltC from0 stop n M (fX7_readThings_L26 (nI stop) m (nI (from0 + n) - 1) 1 x5 (nI p) M) (pLn (rdT g) g from0 8 fl n p) := by
  intro fl
  induction fl with
  | zero =>
    intro n p m M x5 h1 h2
    exact absurd h2 (by omega)
  | succ fl ihL =>
    intro n p m M x5 h1 h2 hp hm hM1 hM
    obtain ⟨m, rfl⟩ : ∃ q, m = q + 1 := ⟨m - 1, by omega⟩
    have e1 : nI (from0 + n) - 1 + 1 = nI (from0 + n) := by
      rcases Nat.eq_zero_or_pos (from0 + n) with z | z
      · rw [z]; decide
      · rw [show from0 + n = (from0 + n - 1) + 1 by omega, nI_pred, nI_1]
    unfold pLn
    rcases Nat.lt_or_ge p stop with hps | hps
    · obtain ⟨x, hx, e⟩ := hg.2 p hps
      have es : fX9_signAt (nI p) M = some (nI x) := by rw [p_signAt hM1 hk (by omega), hM p hps, e]
      have pre := fun (m : Nat) => t_fresh (x3 := nI (from0 + n) - 1) (x4 := 1) (x5 := x5) (y := nI x) (p := p) (m := m) (ln := from0 + n) (M := M) (by decide) e1 (show stop ≤ 80 by omega) hps es h1
      by_cases c : from0 + n = 8
      · rw [if_pos c]
        refine Or.inl ⟨M, ?_, C2l.refl _ _⟩
        rw [pre, if_pos c]
      · rw [if_neg c]
        have hln : from0 + n < 8 := by omega
        have erd : rdT g p = (if sIn (g p) 49 57 = true then (match rise g 97 8 9 (p + 1) 0 0 with | .inl q => .inl q | .inr (q, b) => .inr (q, ((g p).toNatClampNeg - 48, b))) else .inl p) := rfl
        rw [erd]
        by_cases cs : sIn (g p) 49 57 = true
        · obtain ⟨-, y, hy, y1, y2, ey⟩ := hg.sIn (p := p) (by omega) (by omega) cs
          have exy : x = y := by rw [e] at ey; exact (nI_eq (by omega) (by omega)).mp ey
          subst exy
          rw [if_pos cs, pre, if_neg c, if_neg (show ¬ nI x < 49 from ltF (b := 49) y1 (by omega)), if_pos (show nI x ≤ 57 from leT (b := 57) y2 (by omega)), show nI x - 48 = nI (x - 48) from pk_sub (b := 48) (by omega), ← m1e]
          have ew : (g p).toNatClampNeg - 48 = x - 48 := by rw [e, nI_clamp (by omega)]
          rw [ew]
          generalize hM2 : zSI (zSI M 7 (from0 + n) (nI (x - 48))) 6 (from0 + n) 0 = M2
          have k2 : ∀ q, q ≠ 6 → q ≠ 7 → M2.1 q = M.1 q := fun q a b => by subst hM2; rw [zSI_other _ _ _ a, zSI_other _ _ _ b]
          have v6 : M2.1 6 (from0 + n) = nI 0 := by subst hM2; rw [gSI, if_pos ⟨rfl, rfl⟩]; rfl
          have v7 : M2.1 7 (from0 + n) = nI (x - 48) := by subst hM2; rw [zSI_other _ _ _ (by decide), gSI, if_pos ⟨rfl, rfl⟩]
          have cM2 : C2l (from0 + n) M M2 := ⟨by subst hM2; rfl, k2, fun j hj => by subst hM2; exact ⟨by rw [gSI, if_neg (by omega), zSI_other _ _ _ (by decide)], by rw [zSI_other _ _ _ (by decide), gSI, if_neg (by omega)]⟩⟩
          have hr := t_rise (ln := from0 + n) hg hst hk hln 9 (p + 1) 0 0 m M2 (by omega) (by omega) (by omega) (by omega) (by rw [k2 1 (by omega) (by omega)]; exact hM1) (fun j hj => by rw [k2 2 (by omega) (by omega)]; exact hM j hj) v6
          have ok := rise_ok (f := 97) (many := 8) hg (by omega) 9 (p + 1) 0 0 (by omega) (by omega) (by omega) (by omega)
          generalize rise g 97 8 9 (p + 1) 0 0 = o at hr ok ⊢
          match o, hr, ok with
          | .inl q, ⟨T, i1, i2⟩, ok => exact Or.inl ⟨T, i1, cM2.trans i2.C2 (Nat.le_refl _)⟩
          | .inr (q, d), ⟨T, m', lo', i1, i2, i4, i5, i6⟩, ok =>
            have cT := cM2.trans i6.C2 (Nat.le_refl _)
            have hMT : ∀ j, j < stop → T.1 2 j = g j := fun j hj => by rw [cT.2.1 2 (by omega) (by omega)]; exact hM j hj
            have hM1T : T.1 1 1 = nI k := by rw [cT.2.1 1 (by omega) (by omega)]; exact hM1
            have v7T : T.1 7 (from0 + n) = nI (x - 48) := by rw [i6.2.1 7 (by omega)]; exact v7
            dsimp only
            rw [i1]
            obtain ⟨m', rfl⟩ : ∃ q, m' = q + 1 := ⟨m' - 1, by omega⟩
            rcases Nat.lt_or_ge q stop with hqs | hqs
            · obtain ⟨z, hz, ez⟩ := hg.2 q hqs
              have esz : fX9_signAt (nI q) T = some (nI z) := by rw [p_signAt hM1T hk (by omega), hMT q hqs, ez]
              by_cases c59 : g q = 59
              · rw [if_pos c59]
                have c59' : nI z = 59 := by rw [← ez]; exact c59
                have body : fX7_readThings_L26 (nI stop) (m' + 1) (nI (from0 + n)) 0 (nI lo' - 1) (nI q) T = fX7_readThings_L26 (nI stop) m' (nI (from0 + n)) 1 (nI lo' - 1) (nI (q + 1)) T := by
                  rw [fX7_readThings_L26.eq_2]
                  simp only [if_neg (leF hqs (show stop < 2 ^ 31 by omega)), esz, Option.bind_some, zlet, zj, zp, if_pos c59', if_true, nI_1]
                rw [body]
                have ih := ihL (n + 1) (q + 1) m' T (nI lo' - 1) (by omega) (by omega) (by omega) (by omega) hM1T hMT
                rw [show from0 + (n + 1) = from0 + n + 1 by omega, nI_pred] at ih
                generalize pLn (rdT g) g from0 8 fl (n + 1) (q + 1) = o2 at ih ⊢
                match o2, ih with
                | .inl e', Or.inl ⟨T2, j1, j2⟩ => exact Or.inl ⟨T2, j1, cT.trans j2 (by omega)⟩
                | .inl e', Or.inr ⟨j0, y, T2, j1, j2⟩ => exact Or.inr ⟨j0, y, T2, j1, cT.trans j2 (by omega)⟩
                | .inr (l, e'), Or.inl ⟨j0, T2, j1, j2⟩ => exact Or.inl ⟨j0, T2, j1, cT.trans j2 (by omega)⟩
                | .inr (l, e'), Or.inr ⟨j0, T2, j1, j2, j3⟩ =>
                  refine Or.inr ⟨j0, T2, ?_, cT.trans j2 (by omega), fun i y hi => ?_⟩
                  · rw [j1, List.length_cons, show from0 + (n + 1) + l.length = from0 + n + (l.length + 1) by omega]
                  · cases i with
                    | zero =>
                      cases hi
                      rw [Nat.add_zero, (j2.2.2 (from0 + n) (by omega)).1, (j2.2.2 (from0 + n) (by omega)).2]
                      exact ⟨v7T, i5⟩
                    | succ i =>
                      have := j3 i y hi
                      rw [show from0 + n + (i + 1) = from0 + (n + 1) + i by omega]; exact this
              · rw [if_neg c59]
                refine Or.inl ⟨hqs, T, ?_, cT⟩
                have no : sIn (nI z) 97 (97 + 7) = false := by rw [← ez]; exact ok.2.2.2.2
                have n59 : ¬ nI z = 59 := by rw [← ez]; exact c59
                rw [fX7_readThings_L26.eq_2]
                simp only [if_neg (leF hqs (show stop < 2 ^ 31 by omega)), esz, Option.bind_some, zlet, zj, zp, if_neg n59, if_true]
                rw [sIn_nI (by omega) (by omega) (by omega)] at no
                have no' := of_decide_eq_false no
                by_cases zl : z < 97
                · have hneg : nI z - 97 ≤ nI lo' - 1 := by
                    have e1 := pk_sub_toInt (a := z) (b := 97) (by omega) (by omega)
                    rw [Int32.le_iff_toInt_le, show nI z - 97 = nI z - nI 97 from rfl, e1]
                    rcases Nat.eq_zero_or_pos lo' with w | w
                    · subst w
                      have : (nI 0 - 1).toInt = -1 := by decide
                      omega
                    · rw [show lo' = (lo' - 1) + 1 by omega, nI_pred, nI_toInt (by omega)]
                      omega
                  rw [if_pos hneg]
                · have hgt : 104 < nI z := ltT (a := 104) (by omega) (by omega)
                  by_cases hle : nI z - 97 ≤ nI lo' - 1
                  · rw [if_pos hle]
                  · rw [if_neg hle, if_pos hgt]
            · have eq : q = stop := by have := ok.2.1; omega
              rw [if_neg (by rw [eq, hg.1 stop (Nat.le_refl stop)]; decide)]
              refine Or.inr ⟨eq, T, ?_, cT, fun i y hi => ?_⟩
              · rw [fX7_readThings_L26.eq_2, if_pos (leT (show stop ≤ q by omega) (by omega)), List.length_singleton, nI_pred]
              · cases i with
                | zero => cases hi; rw [Nat.add_zero]; exact ⟨v7T, i5⟩
                | succ i => cases hi
        · rw [if_neg cs]
          refine Or.inl ⟨M, ?_, C2l.refl _ _⟩
          rw [pre, if_neg c]
          have no : sIn (nI x) 49 57 = false := by rw [← e]; simpa using cs
          rw [sIn_nI (by omega) (by omega) (by omega)] at no
          have no' := of_decide_eq_false no
          by_cases xl : x < 49
          · rw [if_pos (show nI x < 49 from ltT (b := 49) xl (by omega))]
          · rw [if_neg (show ¬ nI x < 49 from ltF (b := 49) (by omega) (by omega)), if_neg (show ¬ nI x ≤ 57 from leF (b := 57) (by omega) (by omega))]
    · have eq : p = stop := by omega
      have last : fX7_readThings_L26 (nI stop) (m + 1) (nI (from0 + n) - 1) 1 x5 (nI p) M = some (.inr (nI (from0 + n) - 1, 1, M)) := by
        rw [fX7_readThings_L26.eq_2, if_pos (leT (show stop ≤ p by omega) (by omega))]
      by_cases c : from0 + n = 8
      · rw [if_pos c]
        exact Or.inr ⟨eq, _, M, last, C2l.refl _ _⟩
      · rw [if_neg c]
        have erd : rdT g p = .inl p := by
          unfold rdT
          rw [if_neg]
          rw [hg.1 p (by omega), sIn_m1 (by omega)]
          decide
        rw [erd]
        exact Or.inr ⟨eq, _, M, last, C2l.refl _ _⟩
end CT
