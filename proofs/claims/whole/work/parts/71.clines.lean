/-! the class reads lines of signs -/
def Cg (a ln : Nat) (M T : zM) : Prop := T.2 = M.2 ∧ (∀ q, q ≠ a → T.1 q = M.1 q) ∧ ∀ j, j ≠ ln → T.1 a j = M.1 a j
theorem Cg.refl (a ln : Nat) (M : zM) : Cg a ln M M := ⟨rfl, fun _ _ => rfl, fun _ _ => rfl⟩
theorem Cg.trans {a ln : Nat} {A B C : zM} (h : Cg a ln A B) (g : Cg a ln B C) : Cg a ln A C := ⟨g.1.trans h.1, fun q hq => (g.2.1 q hq).trans (h.2.1 q hq), fun j hj => (g.2.2 j hj).trans (h.2.2 j hj)⟩
theorem Cg.SI (a ln : Nat) (M : zM) (x : Int32) : Cg a ln M (zSI M a ln x) := ⟨rfl, fun q hq => zSI_other _ _ _ hq, fun j hj => by rw [gSI, if_neg (by omega)]⟩
def Cl (a j0 : Nat) (M T : zM) : Prop := T.2 = M.2 ∧ (∀ q, q ≠ a → T.1 q = M.1 q) ∧ ∀ j, j < j0 → T.1 a j = M.1 a j
theorem Cl.refl (a j0 : Nat) (M : zM) : Cl a j0 M M := ⟨rfl, fun _ _ => rfl, fun _ _ => rfl⟩
theorem Cg.Cl {a ln : Nat} {M T : zM} (h : Cg a ln M T) : Cl a ln M T := ⟨h.1, h.2.1, fun j hj => h.2.2 j (by omega)⟩
theorem Cl.trans {a j0 j1 : Nat} {A B C : zM} (h : Cl a j0 A B) (g : Cl a j1 B C) (hj : j0 ≤ j1) : Cl a j0 A C := ⟨g.1.trans h.1, fun q hq => (g.2.1 q hq).trans (h.2.1 q hq), fun j hj2 => (g.2.2 j (by omega)).trans (h.2.2 j hj2)⟩
theorem m1e : nI 0 - 1 = (-1 : Int32) := by decide
section CS
variable {g : Nat → Int32} {f many a cap stop : Nat} {x5 : Int32}
/-- a sign that is none of those that rise -/
theorem out_sign {x lo : Nat} (hf : f < 500) (hx : x < 256) (hlo : lo ≤ 8) (hmany : many ≤ 8) (h : sIn (nI x) f (f + 7) = false) : nI x - nI f ≤ nI lo - 1 ∨ (¬ nI x - nI f ≤ nI lo - 1 ∧ ¬ nI x - nI f < nI many) := by
  rw [sIn_nI (by omega) (by omega) (by omega)] at h
  have h' := of_decide_eq_false h
  by_cases c : x < f
  · refine Or.inl ?_
    have e1 := pk_sub_toInt (a := x) (b := f) (by omega) (by omega)
    rw [Int32.le_iff_toInt_le, e1]
    rcases Nat.eq_zero_or_pos lo with z | z
    · subst z
      have : (nI 0 - 1).toInt = -1 := by decide
      omega
    · rw [show lo = (lo - 1) + 1 by omega, nI_pred, nI_toInt (by omega)]
      omega
  · refine Or.inr ?_
    rw [pk_sub (show f ≤ x by omega)]
    refine ⟨fun z => ?_, fun z => ?_⟩
    · have := (le_pred (k := x - f) (lo := lo) (by omega) (by omega)).mp z
      omega
    · have := (nI_ltI (by omega) (by omega)).mp z
      omega
def riC (L : Nat → Int32 → Int32 → Int32 → Int32 → zM → Option ((Int32 × zM) ⊕ (Int32 × Int32 × zM))) (a ln stop : Nat) (M : zM) (o : Option ((Int32 × zM) ⊕ (Int32 × Int32 × zM))) : Nat ⊕ (Nat × Nat) → Prop
  | .inl q => ∃ T, o = some (.inl (-1 - nI q, T)) ∧ Cg a ln M T
  | .inr (q, c) => ∃ T m lo, o = L m (nI ln) 0 (nI lo - 1) (nI q) T ∧ stop - q < m ∧ 1 ≤ lo ∧ lo ≤ 8 ∧ T.1 a ln = nI c ∧ Cg a ln M T
theorem c_rise (hg : GT g stop) (hst : stop ≤ 80) (hf : f = 48 ∨ f = 97) (hmany : many ≤ 8) (ha : zSH a = .inr (0, cap)) (ha2 : a ≠ 2) (hcap : cap < 100) {ln : Nat} (hln : ln < cap) : ∀ n p lo b m M, p ≤ stop → 1 ≤ lo → lo ≤ 8 → 9 ≤ lo + n → stop - p < m → (∀ j, j < stop → M.1 2 j = g j) → M.1 a ln = nI b → riC (fX9_readSets_L25 (nI f) (nI many) a x5 (nI stop)) a ln stop M (fX9_readSets_L25 (nI f) (nI many) a x5 (nI stop) m (nI ln) 0 (nI lo - 1) (nI p) M) (rise g f many n p lo b)
  | 0, p, lo, b, m, M, hp, h1, hlo, hn, hm, hM, hb => absurd hn (by omega)
  | n + 1, p, lo, b, m, M, hp, h1, hlo, hn, hm, hM, hb => by
    have hla : zLen a = cap := zLen_of ha
    unfold rise
    by_cases c : sIn (g p) f (f + 7) = true
    · rw [if_pos c]
      obtain ⟨hpS, x, hx, x1, x2, e⟩ := hg.sIn (p := p) (by omega) (by omega) c
      have ek : (g p).toNatClampNeg - f = x - f := by rw [e, nI_clamp (by omega)]
      rw [ek]
      obtain ⟨m, rfl⟩ : ∃ q, m = q + 1 := ⟨m - 1, by omega⟩
      have p31 : p < 2 ^ 31 := by omega
      have ep : M.1 2 p = nI x := by rw [hM p hpS, e]
      have n59 : ¬ nI x = 59 := fun z => by
        have := (nI_eq (show x < 2 ^ 31 by omega) (show 59 < 2 ^ 31 by omega)).mp z
        omega
      have body : fX9_readSets_L25 (nI f) (nI many) a x5 (nI stop) (m + 1) (nI ln) 0 (nI lo - 1) (nI p) M = if x - f < lo ∨ many ≤ x - f then some (.inl (-1 - nI p, M)) else fX9_readSets_L25 (nI f) (nI many) a x5 (nI stop) m (nI ln) 0 (nI (x - f)) (nI (p + 1)) (zSI M a ln (nI (b ||| 2 ^ (x - f)))) := by
        rw [fX9_readSets_L25.eq_2]
        simp only [if_neg (leF hpS (show stop < 2 ^ 31 by omega)), if_pos (zinT (show p < 80 by omega) p31), nI_clamp p31, ep, zlet, zj, if_neg n59, if_true, hla, if_pos ha, if_neg (show ¬ Int32.ofNat cap ≤ nI ln from leF hln (by omega)), pk_sub x1, if_pos (zinT hln (show ln < 2 ^ 31 by omega)), nI_clamp (show ln < 2 ^ 31 by omega), hb, Option.bind_some, zshl_2 (show x - f < 31 by omega), nI_or, nI_1]
        have c3 : (nI (x - f) ≤ nI lo - 1) ↔ x - f < lo := le_pred (by omega) (by omega)
        have c4 : (nI (x - f) < nI many) ↔ x - f < many := nI_ltI (by omega) (by omega)
        by_cases d1 : x - f < lo
        · rw [if_pos (c3.mpr d1), if_pos (Or.inl d1)]
        · rw [if_neg (fun z => d1 (c3.mp z))]
          by_cases d2 : x - f < many
          · rw [if_pos (c4.mpr d2), if_neg (by omega)]
          · rw [if_neg (fun z => d2 (c4.mp z)), if_pos (by omega)]
      rw [body]
      by_cases c2 : x - f < lo ∨ many ≤ x - f
      · rw [if_pos c2, if_pos c2]
        exact ⟨M, rfl, Cg.refl a ln M⟩
      · rw [if_neg c2, if_neg c2]
        have ih := c_rise hg hst hf hmany ha ha2 hcap hln n (p + 1) (x - f + 1) (b ||| 2 ^ (x - f)) m (zSI M a ln (nI (b ||| 2 ^ (x - f)))) (by omega) (by omega) (by omega) (by omega) (by omega) (fun j hj => by rw [zSI_other _ _ _ (Ne.symm ha2)]; exact hM j hj) (by rw [gSI, if_pos ⟨rfl, rfl⟩])
        rw [nI_pred] at ih
        have cg := Cg.SI a ln M (nI (b ||| 2 ^ (x - f)))
        generalize rise g f many n (p + 1) (x - f + 1) (b ||| 2 ^ (x - f)) = o at ih
        match o, ih with
        | .inl q, ⟨T, i1, i2⟩ => exact ⟨T, i1, cg.trans i2⟩
        | .inr (q, d), ⟨T, m', lo', i1, i2, i3, i4, i5, i6⟩ => exact ⟨T, m', lo', i1, i2, i3, i4, i5, cg.trans i6⟩
    · rw [if_neg c]
      exact ⟨M, m, lo, rfl, hm, h1, hlo, hb, Cg.refl a ln M⟩
abbrev rsT : Type := Option ((Int32 × zM) ⊕ (Int32 × Int32 × zM))
def lnC (a from0 stop n : Nat) (M : zM) (o : rsT) : Nat ⊕ (List Nat × Nat) → Prop
  | .inl e => (∃ T, o = some (.inl (-1 - nI e, T)) ∧ Cl a (from0 + n) M T) ∨ (e = stop ∧ ∃ x T, o = some (.inr (x, 1, T)) ∧ Cl a (from0 + n) M T)
  | .inr (l, q) => (q < stop ∧ ∃ T, o = some (.inl (-1 - nI q, T)) ∧ Cl a (from0 + n) M T) ∨ (q = stop ∧ ∃ T, o = some (.inr (nI (from0 + n + l.length) - 1, 0, T)) ∧ Cl a (from0 + n) M T ∧ ∀ i x, l[i]? = some x → T.1 a (from0 + n + i) = nI x)
theorem c_full {x7 x8 x9 : Int32} {p m ln : Nat} {M : zM} (h8 : ¬ x8 = 0) (e1 : x7 + 1 = nI ln) (ha : zSH a = .inr (0, cap)) (hst : stop ≤ 80) (hps : p < stop) (hcap : cap < 100) (hln : ln = cap) : fX9_readSets_L25 (nI f) (nI many) a x5 (nI stop) (m + 1) x7 x8 x9 (nI p) M = some (.inl (-1 - nI p, M)) := by
  have hla : zLen a = cap := zLen_of ha
  have p31 : p < 2 ^ 31 := by omega
  rw [fX9_readSets_L25.eq_2]
  simp only [if_neg (leF hps (show stop < 2 ^ 31 by omega)), if_pos (zinT (show p < 80 by omega) p31), nI_clamp p31, zlet, zj, if_neg h8, e1, hla, if_pos ha, if_pos (show Int32.ofNat cap ≤ nI ln from leT (by omega) (by omega))]
theorem c_fresh {x7 x8 x9 y : Int32} {p m ln : Nat} {M : zM} (h8 : ¬ x8 = 0) (e1 : x7 + 1 = nI ln) (ha : zSH a = .inr (0, cap)) (hst : stop ≤ 80) (hps : p < stop) (hcap : cap < 100) (hln : ln < cap) (ep : M.1 2 p = y) : fX9_readSets_L25 (nI f) (nI many) a x5 (nI stop) (m + 1) x7 x8 x9 (nI p) M = if y - nI f ≤ -1 then some (.inl (-1 - nI p, M)) else if y - nI f < nI many then fX9_readSets_L25 (nI f) (nI many) a x5 (nI stop) m (nI ln) 0 (y - nI f) (nI (p + 1)) (zSI M a ln (0 ||| zshl 1 (y - nI f))) else some (.inl (-1 - nI p, M)) := by
  have hla : zLen a = cap := zLen_of ha
  have p31 : p < 2 ^ 31 := by omega
  have l31 : ln < 2 ^ 31 := by omega
  rw [fX9_readSets_L25.eq_2]
  simp only [if_neg (leF hps (show stop < 2 ^ 31 by omega)), if_pos (zinT (show p < 80 by omega) p31), nI_clamp p31, ep, zlet, zj, if_neg h8, e1, hla, if_pos ha, if_neg (show ¬ Int32.ofNat cap ≤ nI ln from leF hln (by omega)), if_pos (zinT hln l31), nI_clamp l31, Option.bind_some, nI_1]
theorem c_lines {from0 : Nat} (hg : GT g stop) (hst : stop ≤ 80) (hf : f = 48 ∨ f = 97) (hmany : many ≤ 8) (ha : zSH a = .inr (0, cap)) (ha2 : a ≠ 2) (hcap : cap < 100) : ∀ fl n p m M x9, from0 + n ≤ cap → cap - (from0 + n) < fl → p ≤ stop → stop - p < m → (∀ j, j < stop → M.1 2 j = g j) → lnC a from0 stop n M (fX9_readSets_L25 (nI f) (nI many) a x5 (nI stop) m (nI (from0 + n) - 1) 1 x9 (nI p) M) (pLn (rdS g f many) g from0 cap fl n p) := by
  intro fl
  induction fl with
  | zero =>
    intro n p m M x9 h1 h2
    exact absurd h2 (by omega)
  | succ fl ihL =>
    intro n p m M x9 h1 h2 hp hm hM
    have hla : zLen a = cap := zLen_of ha
    obtain ⟨m, rfl⟩ : ∃ q, m = q + 1 := ⟨m - 1, by omega⟩
    have e1 : nI (from0 + n) - 1 + 1 = nI (from0 + n) := by
      rcases Nat.eq_zero_or_pos (from0 + n) with z | z
      · rw [z]; decide
      · rw [show from0 + n = (from0 + n - 1) + 1 by omega, nI_pred, nI_1]
    unfold pLn
    rcases Nat.lt_or_ge p stop with hps | hps
    · obtain ⟨x, hx, e⟩ := hg.2 p hps
      have ep : M.1 2 p = nI x := by rw [hM p hps, e]
      have p31 : p < 2 ^ 31 := by omega
      by_cases c : from0 + n = cap
      · rw [if_pos c]
        refine Or.inl ⟨M, ?_, Cl.refl _ _ _⟩
        exact c_full (by decide) e1 ha hst hps hcap c
      · rw [if_neg c]
        have hln : from0 + n < cap := by omega
        have l31 : from0 + n < 2 ^ 31 := by omega
        have pre : ∀ m, fX9_readSets_L25 (nI f) (nI many) a x5 (nI stop) (m + 1) (nI (from0 + n) - 1) 1 x9 (nI p) M = if nI x - nI f ≤ -1 then some (.inl (-1 - nI p, M)) else if nI x - nI f < nI many then fX9_readSets_L25 (nI f) (nI many) a x5 (nI stop) m (nI (from0 + n)) 0 (nI x - nI f) (nI (p + 1)) (zSI M a (from0 + n) (0 ||| zshl 1 (nI x - nI f))) else some (.inl (-1 - nI p, M)) := fun m => by
          exact c_fresh (by decide) e1 ha hst hps hcap hln ep
        have erd : rdS g f many p = (match rise g f many 9 p 0 0 with | .inl q => .inl q | .inr (q, b) => if b = 0 then .inl q else .inr (q, b)) := rfl
        rw [erd]
        by_cases cs : sIn (g p) f (f + 7) = true
        · obtain ⟨-, y, hy, y1, y2, ey⟩ := hg.sIn (p := p) (by omega) (by omega) cs
          have exy : x = y := by rw [e] at ey; exact (nI_eq (by omega) (by omega)).mp ey
          subst exy
          have ek : (g p).toNatClampNeg - f = x - f := by rw [e, nI_clamp (by omega)]
          have er : rise g f many 9 p 0 0 = if many ≤ x - f then .inl p else rise g f many 8 (p + 1) (x - f + 1) (2 ^ (x - f)) := by
            rw [rise.eq_2, if_pos cs, ek]
            by_cases d : many ≤ x - f
            · rw [if_pos (Or.inr d), if_pos d]
            · rw [if_neg (by omega), if_neg d, Nat.zero_or]
          rw [er, pre, pk_sub y1, if_neg (fun z => by
            have := (le_pred (k := x - f) (lo := 0) (by omega) (by omega)).mp (by rw [m1e]; exact z)
            omega)]
          by_cases d : many ≤ x - f
          · rw [if_pos d, if_neg (fun z => by
              have := (nI_ltI (by omega) (by omega)).mp z
              omega)]
            exact Or.inl ⟨M, rfl, Cl.refl _ _ _⟩
          · rw [if_neg d, if_pos (ltT (show x - f < many by omega) (by omega)), zshl_2 (show x - f < 31 by omega), show (0 : Int32) ||| nI (2 ^ (x - f)) = nI (2 ^ (x - f)) from by rw [show (0 : Int32) = nI 0 from rfl, nI_or, Nat.zero_or]]
            have hr := c_rise (x5 := x5) hg hst hf hmany ha ha2 hcap hln 8 (p + 1) (x - f + 1) (2 ^ (x - f)) m (zSI M a (from0 + n) (nI (2 ^ (x - f)))) (by omega) (by omega) (by omega) (by omega) (by omega) (fun j hj => by rw [zSI_other _ _ _ (Ne.symm ha2)]; exact hM j hj) (by rw [gSI, if_pos ⟨rfl, rfl⟩])
            rw [nI_pred] at hr
            have ok := rise_ok (many := many) hg (show f < 500 by omega) 8 (p + 1) (x - f + 1) (2 ^ (x - f)) (by omega) (by omega) (by omega) (Nat.pow_lt_pow_right (by omega) (by omega))
            have cg := Cg.SI a (from0 + n) M (nI (2 ^ (x - f)))
            generalize rise g f many 8 (p + 1) (x - f + 1) (2 ^ (x - f)) = o at hr ok ⊢
            match o, hr, ok with
            | .inl q, ⟨T, i1, i2⟩, ok => exact Or.inl ⟨T, i1, (cg.trans i2).Cl⟩
            | .inr (q, d), ⟨T, m', lo', i1, i2, i3, i4, i5, i6⟩, ok =>
              have d0 : d ≠ 0 := ok.2.2.2.1 (by have := Nat.two_pow_pos (x - f); omega)
              have cgT := cg.trans i6
              have hMT : ∀ j, j < stop → T.1 2 j = g j := fun j hj => by rw [cgT.2.1 2 (Ne.symm ha2)]; exact hM j hj
              dsimp only
              rw [if_neg d0, i1]
              dsimp only
              obtain ⟨m', rfl⟩ : ∃ q, m' = q + 1 := ⟨m' - 1, by omega⟩
              rcases Nat.lt_or_ge q stop with hqs | hqs
              · obtain ⟨z, hz, ez⟩ := hg.2 q hqs
                have epz : T.1 2 q = nI z := by rw [hMT q hqs, ez]
                have q31 : q < 2 ^ 31 := by omega
                by_cases c59 : g q = 59
                · rw [if_pos c59]
                  have body : fX9_readSets_L25 (nI f) (nI many) a x5 (nI stop) (m' + 1) (nI (from0 + n)) 0 (nI lo' - 1) (nI q) T = fX9_readSets_L25 (nI f) (nI many) a x5 (nI stop) m' (nI (from0 + n)) 1 (nI lo' - 1) (nI (q + 1)) T := by
                    rw [fX9_readSets_L25.eq_2]
                    simp only [if_neg (leF hqs (show stop < 2 ^ 31 by omega)), if_pos (zinT (show q < 80 by omega) q31), nI_clamp q31, hMT q hqs, zlet, zj, if_pos c59, if_true, nI_1]
                  rw [body]
                  have ih := ihL (n + 1) (q + 1) m' T (nI lo' - 1) (by omega) (by omega) (by omega) (by omega) hMT
                  rw [show from0 + (n + 1) = from0 + n + 1 by omega, nI_pred] at ih
                  generalize pLn (rdS g f many) g from0 cap fl (n + 1) (q + 1) = o2 at ih ⊢
                  match o2, ih with
                  | .inl e', Or.inl ⟨T2, j1, j2⟩ => exact Or.inl ⟨T2, j1, cgT.Cl.trans j2 (by omega)⟩
                  | .inl e', Or.inr ⟨j0, y, T2, j1, j2⟩ => exact Or.inr ⟨j0, y, T2, j1, cgT.Cl.trans j2 (by omega)⟩
                  | .inr (l, e'), Or.inl ⟨j0, T2, j1, j2⟩ => exact Or.inl ⟨j0, T2, j1, cgT.Cl.trans j2 (by omega)⟩
                  | .inr (l, e'), Or.inr ⟨j0, T2, j1, j2, j3⟩ =>
                    refine Or.inr ⟨j0, T2, ?_, cgT.Cl.trans j2 (by omega), fun i y hi => ?_⟩
                    · rw [j1, List.length_cons, show from0 + (n + 1) + l.length = from0 + n + (l.length + 1) by omega]
                    · cases i with
                      | zero =>
                        cases hi
                        rw [Nat.add_zero, j2.2.2 (from0 + n) (by omega)]
                        exact i5
                      | succ i =>
                        have := j3 i y hi
                        rw [show from0 + n + (i + 1) = from0 + (n + 1) + i by omega]; exact this
                · rw [if_neg c59]
                  refine Or.inl ⟨hqs, T, ?_, cgT.Cl⟩
                  have no : sIn (nI z) f (f + 7) = false := by rw [← ez]; exact ok.2.2.2.2
                  have n59 : ¬ nI z = 59 := by rw [← ez]; exact c59
                  rw [fX9_readSets_L25.eq_2]
                  simp only [if_neg (leF hqs (show stop < 2 ^ 31 by omega)), if_pos (zinT (show q < 80 by omega) q31), nI_clamp q31, epz, zlet, zj, if_neg n59, if_true, hla, if_pos ha, if_neg (show ¬ Int32.ofNat cap ≤ nI (from0 + n) from leF hln (by omega))]
                  rcases out_sign (many := many) (show f < 500 by omega) hz i4 hmany no with w | ⟨w1, w2⟩
                  · rw [if_pos w]
                  · rw [if_neg w1, if_neg w2]
              · have eq : q = stop := by have := ok.2.1; omega
                subst eq
                rw [if_neg (by rw [hg.1 q (Nat.le_refl q)]; decide)]
                refine Or.inr ⟨rfl, T, ?_, cgT.Cl, fun i y hi => ?_⟩
                · rw [fX9_readSets_L25.eq_2, if_pos (leT (Nat.le_refl q) (by omega)), List.length_singleton, nI_pred]
                · cases i with
                  | zero => cases hi; rw [Nat.add_zero]; exact i5
                  | succ i => cases hi
        · have er : rise g f many 9 p 0 0 = .inr (p, 0) := by rw [rise.eq_2, if_neg cs]
          rw [er]
          have no : sIn (nI x) f (f + 7) = false := by rw [← e]; simpa using cs
          refine Or.inl ⟨M, ?_, Cl.refl _ _ _⟩
          rw [pre]
          rcases out_sign (many := many) (lo := 0) (show f < 500 by omega) hx (by omega) hmany no with w | ⟨w1, w2⟩
          · rw [m1e] at w
            rw [if_pos w]
          · rw [m1e] at w1
            rw [if_neg w1, if_neg w2]
    · have eq : p = stop := by omega
      subst eq
      have last : fX9_readSets_L25 (nI f) (nI many) a x5 (nI p) (m + 1) (nI (from0 + n) - 1) 1 x9 (nI p) M = some (.inr (nI (from0 + n) - 1, 1, M)) := by
        rw [fX9_readSets_L25.eq_2, if_pos (leT (Nat.le_refl p) (by omega))]
      by_cases c : from0 + n = cap
      · rw [if_pos c]
        exact Or.inr ⟨rfl, _, M, last, Cl.refl _ _ _⟩
      · rw [if_neg c]
        have er : rise g f many 9 p 0 0 = .inr (p, 0) := by
          rw [rise.eq_2, if_neg]
          rw [hg.1 p (Nat.le_refl p), sIn_m1 (by omega)]
          decide
        have erd : rdS g f many p = .inl p := by unfold rdS; rw [er]; rfl
        rw [erd]
        exact Or.inr ⟨rfl, _, M, last, Cl.refl _ _ _⟩
end CS
/-- the whole reading of lines, of the class -/
theorem c_sets {M : zM} {k most a cap from0 f many : Nat} (hk : k ≤ 80) (hm : most ≤ 80) (h1 : M.1 1 1 = nI k) (hb : ∀ j, j < k → ∃ b : Nat, b < 256 ∧ M.1 2 j = nI b) (hf : f = 48 ∨ f = 97) (hmany : many ≤ 8) (ha : zSH a = .inr (0, cap)) (ha2 : a ≠ 1 ∧ a ≠ 2) (hcap : cap < 100) (hfr : from0 ≤ cap) : ∃ r T, fX9_readSets (nI f) (nI many) (nI most) a (nI from0) M = some (r, T) ∧ Cl a from0 M T ∧ (match pLn (rdS (gT M (min k most)) f many) (gT M (min k most)) from0 cap (cap - from0 + 1) 0 0 with
    | .inl e => r = -1 - nI e
    | .inr (l, q) => if q = k then r = nI l.length ∧ ∀ i x, l[i]? = some x → T.1 a (from0 + i) = nI x else r = -1 - nI q) := by
  have hg := GT_of (most := most) hb
  have h := c_lines (x5 := nI from0) (from0 := from0) hg (show min k most ≤ 80 by omega) hf hmany ha ha2.2 hcap (cap - from0 + 1) 0 0 4000 M (-1) (by omega) (by omega) (by omega) (by omega) (fun j hj => (gT_in hj).symm)
  have ok := pLn_ok (base := from0) (cap := cap) hg (fun p hp => rdS_ok (many := many) hg (show f < 500 by omega) hp) (cap - from0 + 1) 0 0 (Nat.zero_le _) (by omega)
  rw [Nat.add_zero] at h
  have es : zmin (M.1 1 1) (nI most) = nI (min k most) := by rw [h1, zmin_nI (by omega) (by omega)]
  have e0 : ∀ o, fX9_readSets_L25 (nI f) (nI many) a (nI from0) (nI (min k most)) 4000 (nI from0 - 1) 1 (-1) 0 M = o → fX9_readSets (nI f) (nI many) (nI most) a (nI from0) M = o.bind (fun q => zs q (fun r => some r) (fun (q : Int32 × Int32 × zM) => zp q fun x7_140 q => zp q fun x8_140 M_140 => zj (fun (_ : Unit) => some ((-1) - nI (min k most), M_140)) fun J8 => if x8_140 = 0 then (if (M_140.1 1 1) ≤ nI (min k most) then some ((x7_140 - nI from0) + 1, M_140) else J8 ()) else J8 ())) := fun o ho => by
    unfold fX9_readSets
    simp only [zlet, es]
    rw [ho]
  generalize pLn (rdS (gT M (min k most)) f many) (gT M (min k most)) from0 cap (cap - from0 + 1) 0 0 = o at h ok ⊢
  match o, h, ok with
  | .inl e, Or.inl ⟨T, i1, i2⟩, ok => exact ⟨_, T, by rw [e0 _ i1]; rfl, i2, rfl⟩
  | .inl e, Or.inr ⟨j0, x, T, i1, i2⟩, ok =>
    subst j0
    exact ⟨_, T, by rw [e0 _ i1]; rfl, i2, rfl⟩
  | .inr (l, q), Or.inl ⟨j0, T, i1, i2⟩, ok =>
    refine ⟨_, T, by rw [e0 _ i1]; rfl, i2, ?_⟩
    dsimp only
    rw [if_neg (by omega)]
  | .inr (l, q), Or.inr ⟨j0, T, i1, i2, i3⟩, ok =>
    have k1 : T.1 1 1 = nI k := by rw [i2.2.1 1 (Ne.symm ha2.1)]; exact h1
    by_cases c : q = k
    · refine ⟨nI l.length, T, ?_, i2, ?_⟩
      · rw [e0 _ i1]
        simp only [Option.bind_some, zs, zp, zj, if_true, k1]
        rw [if_pos (leT (show k ≤ min k most by omega) (by omega)), Nat.add_zero]
        have := ok.1
        rw [show from0 + l.length = (from0 + l.length - 1) + 1 by omega, nI_pred, pk_sub (by omega), nI_1]
        congr 3
        omega
      · dsimp only
        rw [if_pos c]
        refine ⟨rfl, fun i x hi => ?_⟩
        have := i3 i x hi
        rw [Nat.add_zero] at this
        exact this
    · refine ⟨-1 - nI q, T, ?_, i2, ?_⟩
      · rw [e0 _ i1]
        simp only [Option.bind_some, zs, zp, zj, if_true, k1]
        rw [if_neg (leF (show min k most < k by omega) (by omega)), j0]
      · dsimp only
        rw [if_neg c]
