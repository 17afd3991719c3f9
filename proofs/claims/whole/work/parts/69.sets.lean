/-! lines of rising signs -/
def rise (g : Nat → Int32) (f many : Nat) : Nat → Nat → Nat → Nat → Nat ⊕ (Nat × Nat)
  | 0, p, _, b => .inr (p, b)
  | n + 1, p, lo, b => if sIn (g p) f (f + 7) = true then (if (g p).toNatClampNeg - f < lo ∨ many ≤ (g p).toNatClampNeg - f then .inl p else rise g f many n (p + 1) ((g p).toNatClampNeg - f + 1) (b ||| 2 ^ ((g p).toNatClampNeg - f))) else .inr (p, b)
def rsOk (S many b p : Nat) (P : Nat → Prop) : Nat ⊕ (Nat × Nat) → Prop
  | .inl q => p ≤ q ∧ q < S
  | .inr (q, c) => p ≤ q ∧ q ≤ S ∧ c < 2 ^ many ∧ (b ≠ 0 → c ≠ 0) ∧ P q
theorem or_ne0 {b k : Nat} : b ||| 2 ^ k ≠ 0 := fun z => by
  have h : (b ||| 2 ^ k).testBit k = true := by rw [Nat.testBit_or, Nat.testBit_two_pow_self]; simp
  rw [z] at h
  simp at h
theorem rise_ok {g : Nat → Int32} {f many S : Nat} (hg : GT g S) (hf : f < 500) : ∀ n p lo b, p ≤ S → lo ≤ 8 → 9 ≤ lo + n → b < 2 ^ many → rsOk S many b p (fun q => sIn (g q) f (f + 7) = false) (rise g f many n p lo b)
  | 0, p, lo, b, hp, hlo, hn, hb => absurd hn (by omega)
  | n + 1, p, lo, b, hp, hlo, hn, hb => by
    unfold rise
    by_cases c : sIn (g p) f (f + 7) = true
    · rw [if_pos c]
      obtain ⟨hpS, x, hx, x1, x2, e⟩ := hg.sIn (p := p) (by omega) (by omega) c
      have ek : (g p).toNatClampNeg - f = x - f := by rw [e, nI_clamp (by omega)]
      rw [ek]
      by_cases c2 : x - f < lo ∨ many ≤ x - f
      · rw [if_pos c2]; exact ⟨Nat.le_refl p, hpS⟩
      · rw [if_neg c2]
        have hb2 : b ||| 2 ^ (x - f) < 2 ^ many := Nat.or_lt_two_pow hb (Nat.pow_lt_pow_right (by omega) (by omega))
        have ih := rise_ok hg hf n (p + 1) (x - f + 1) (b ||| 2 ^ (x - f)) (by omega) (by omega) (by omega) hb2
        generalize rise g f many n (p + 1) (x - f + 1) (b ||| 2 ^ (x - f)) = o at ih
        match o, ih with
        | .inl q, ih => exact ⟨by have := ih.1; omega, ih.2⟩
        | .inr (q, d), ih => exact ⟨by have := ih.1; omega, ih.2.1, ih.2.2.1, fun _ => ih.2.2.2.1 or_ne0, ih.2.2.2.2⟩
    · rw [if_neg c]
      exact ⟨Nat.le_refl p, hp, hb, fun h => h, by simpa using c⟩
def FrI (M N : zM) : Prop := (∀ q, q ≠ 36 → N.1 q = M.1 q) ∧ (∀ j, j ≠ 16 → j ≠ 17 → N.1 36 j = M.1 36 j) ∧ N.2 = M.2
theorem FrI.refl (M : zM) : FrI M M := ⟨fun _ _ => rfl, fun _ _ _ => rfl, rfl⟩
theorem FrI.trans {A B C : zM} (h : FrI A B) (g : FrI B C) : FrI A C := ⟨fun q a => (g.1 q a).trans (h.1 q a), fun j a b => (g.2.1 j a b).trans (h.2.1 j a b), g.2.2.trans h.2.2⟩
theorem FrI.adv (M : zM) (x : Int32) : FrI M (zSI M 36 16 x) := ⟨fun q hq => zSI_other _ _ _ hq, fun j j1 _ => by rw [gSI, if_neg (by omega)], rfl⟩
theorem FrI.flt (M : zM) (x : Int32) : FrI M (zSI M 36 17 x) := ⟨fun q hq => zSI_other _ _ _ hq, fun j _ j2 => by rw [gSI, if_neg (by omega)], rfl⟩
theorem zshl_2 {k : Nat} (h : k < 31) : zshl 1 (nI k) = nI (2 ^ k) := zshl_pow h
theorem le_pred {k lo : Nat} (hk : k < 1000) (hl : lo < 1000) : nI k ≤ nI lo - 1 ↔ k < lo := by
  rcases Nat.eq_zero_or_pos lo with z | z
  · subst z
    constructor
    · intro h
      exfalso
      rw [Int32.le_iff_toInt_le, nI_toInt (by omega)] at h
      have : (nI 0 - 1).toInt = -1 := by decide
      omega
    · intro h; omega
  · rw [show lo = (lo - 1) + 1 by omega, nI_pred, le_nI (by omega) (by omega)]
    omega
def riM (g : Nat → Int32) (k most : Nat) (R : zM) (o : Option (Int32 × zM)) : Nat ⊕ (Nat × Nat) → Prop
  | .inl q => ∃ x T, o = some (x, T) ∧ TSt g k most T q (some q) ∧ FrI R T
  | .inr (q, b) => ∃ T, o = some (nI b, T) ∧ TSt g k most T q none ∧ FrI R T
section RI
variable {g : Nat → Int32} {k most f many : Nat}
theorem m_rise (hg : GT g (min k most)) (hf : f = 48 ∨ f = 97) (hmany : many ≤ 8) : ∀ n p lo b m R, p ≤ min k most → lo ≤ 8 → 9 ≤ lo + n → n + 1 < m → TSt g k most R p none → riM g k most R (fX12_rising_L5 (nI f) (nI many) m (nI b) (nI lo - 1) R) (rise g f many n p lo b)
  | 0, p, lo, b, m, R, hp, hlo, hn, hm, t => absurd hn (by omega)
  | n + 1, p, lo, b, m, R, hp, hlo, hn, hm, t => by
    obtain ⟨m, rfl⟩ : ∃ q, m = q + 1 := ⟨m - 1, by omega⟩
    have em : nI f + 8 - 1 = nI (f + 7) := by
      rw [show nI f + 8 = nI (f + 7 + 1) from nI_add f 8, nI_pred]
    unfold rise
    by_cases c : sIn (g p) f (f + 7) = true
    · rw [if_pos c]
      obtain ⟨hpS, x, hx, x1, x2, e⟩ := hg.sIn (p := p) (by omega) (by omega) c
      have ek : (g p).toNatClampNeg - f = x - f := by rw [e, nI_clamp (by omega)]
      rw [ek]
      have ed : g p - nI f = nI (x - f) := by rw [e, pk_sub x1]
      have body : fX12_rising_L5 (nI f) (nI many) (m + 1) (nI b) (nI lo - 1) R = if x - f < lo ∨ many ≤ x - f then fX12_rising_L5 (nI f) (nI many) m (nI b) (nI lo - 1) (zSI R 36 17 (nI p)) else fX12_rising_L5 (nI f) (nI many) m (nI (b ||| 2 ^ (x - f))) (nI (x - f)) (zSI R 36 16 (nI (p + 1))) := by
        simp only [fX12_rising_L5, t_fine1 t, show ¬ (1 : Int32) = 0 by decide, if_false, t_here hg t, Option.bind_some, em, in_sIn, c, if_true, zlet, ed, t_fault1 t, t.1.2.2.1, nI_1, zshl_2 (show x - f < 31 by omega), nI_or]
        have c3 : (nI (x - f) ≤ nI lo - 1) ↔ x - f < lo := le_pred (by omega) (by omega)
        have c4 : (nI (x - f) < nI many) ↔ x - f < many := nI_ltI (by omega) (by omega)
        by_cases d1 : x - f < lo
        · simp only [c3.mpr d1, if_true, d1, true_or]
        · have n3 : ¬ nI (x - f) ≤ nI lo - 1 := fun z => d1 (c3.mp z)
          by_cases d2 : x - f < many
          · have d3 : ¬ (x - f < lo ∨ many ≤ x - f) := by omega
            simp only [n3, if_false, c4.mpr d2, if_true, d3]
          · have d3 : x - f < lo ∨ many ≤ x - f := by omega
            have n4 : ¬ nI (x - f) < nI many := fun z => d2 (c4.mp z)
            simp only [n3, if_false, n4, d3, if_true]
      rw [body]
      by_cases c2 : x - f < lo ∨ many ≤ x - f
      · rw [if_pos c2, if_pos c2]
        obtain ⟨m, rfl⟩ : ∃ q, m = q + 1 := ⟨m - 1, by omega⟩
        refine ⟨nI b, zSI R 36 17 (nI p), ?_, t.flt, FrI.flt R _⟩
        simp only [fX12_rising_L5, t_fine0 t.flt, if_true]
      · rw [if_neg c2, if_neg c2]
        have ih := m_rise hg hf hmany n (p + 1) (x - f + 1) (b ||| 2 ^ (x - f)) m (zSI R 36 16 (nI (p + 1))) (by omega) (by omega) (by omega) (by omega) (t.adv (by omega))
        rw [nI_pred] at ih
        generalize rise g f many n (p + 1) (x - f + 1) (b ||| 2 ^ (x - f)) = o at ih
        match o, ih with
        | .inl q, ⟨y, T, h1, h2, h3⟩ => exact ⟨y, T, h1, h2, (FrI.adv R _).trans h3⟩
        | .inr (q, d), ⟨T, h1, h2, h3⟩ => exact ⟨T, h1, h2, (FrI.adv R _).trans h3⟩
    · rw [if_neg c]
      refine ⟨R, ?_, t, FrI.refl R⟩
      simp only [fX12_rising_L5, t_fine1 t, show ¬ (1 : Int32) = 0 by decide, if_false, t_here hg t, Option.bind_some, em, in_sIn, if_neg c, if_true]
theorem m_rising (hg : GT g (min k most)) (hf : f = 48 ∨ f = 97) (hmany : many ≤ 8) {p : Nat} {R : zM} (hp : p ≤ min k most) (t : TSt g k most R p none) : riM g k most R (fX12_rising (nI f) (nI many) R) (rise g f many 9 p 0 0) := by
  have h := m_rise hg hf hmany 9 p 0 0 4000 R hp (by omega) (by omega) (by omega) t
  have e : fX12_rising (nI f) (nI many) R = fX12_rising_L5 (nI f) (nI many) 4000 (nI 0) (nI 0 - 1) R := by
    unfold fX12_rising
    show (fX12_rising_L5 (nI f) (nI many) 4000 (nI 0) (nI 0 - 1) R).bind _ = _
    cases fX12_rising_L5 (nI f) (nI many) 4000 (nI 0) (nI 0 - 1) R with
    | none => rfl
    | some q => rfl
  rw [e]; exact h
theorem m_rising0 {p q : Nat} {R : zM} (t : TSt g k most R p (some q)) (x y : Int32) : fX12_rising x y R = some (0, R) := by
  have : ∀ n, fX12_rising_L5 x y (n + 1) 0 (-1) R = some (0, R) := fun n => by simp only [fX12_rising_L5, t_fine0 t, if_true]
  unfold fX12_rising
  rw [this 3999]; rfl
end RI
/-! lines -/
def pLn {β : Type} (rd : Nat → Nat ⊕ (Nat × β)) (g : Nat → Int32) (base cap : Nat) : Nat → Nat → Nat → Nat ⊕ (List β × Nat)
  | 0, _, p => .inl p
  | fl + 1, n, p => if base + n = cap then .inl p else match rd p with
    | .inl q => .inl q
    | .inr (q, b) => if g q = 59 then (match pLn rd g base cap fl (n + 1) (q + 1) with
      | .inl e => .inl e
      | .inr (l, e) => .inr (b :: l, e)) else .inr ([b], q)
def rdS (g : Nat → Int32) (f many p : Nat) : Nat ⊕ (Nat × Nat) := match rise g f many 9 p 0 0 with
  | .inl q => .inl q
  | .inr (q, b) => if b = 0 then .inl q else .inr (q, b)
def rdOk {β : Type} (S : Nat) (B : β → Prop) (p : Nat) : Nat ⊕ (Nat × β) → Prop
  | .inl q => q ≤ S
  | .inr (q, b) => p ≤ q ∧ q ≤ S ∧ B b
theorem rdS_ok {g : Nat → Int32} {f many S p : Nat} (hg : GT g S) (hf : f < 500) (hp : p ≤ S) : rdOk S (fun b => 0 < b ∧ b < 2 ^ many) p (rdS g f many p) := by
  have h := rise_ok (many := many) hg hf 9 p 0 0 hp (by omega) (by omega) (Nat.two_pow_pos many)
  unfold rdS
  generalize rise g f many 9 p 0 0 = o at h
  match o, h with
  | .inl q, h => exact Nat.le_of_lt h.2
  | .inr (q, b), h =>
    dsimp only
    split
    · exact h.2.1
    · exact ⟨h.1, h.2.1, by omega, h.2.2.1⟩
def lnOk {β : Type} (S : Nat) (B : β → Prop) (base cap n : Nat) : Nat ⊕ (List β × Nat) → Prop
  | .inl e => e ≤ S
  | .inr (l, q) => 1 ≤ l.length ∧ base + n + l.length ≤ cap ∧ q ≤ S ∧ ∀ b ∈ l, B b
theorem pLn_ok {β : Type} {rd : Nat → Nat ⊕ (Nat × β)} {g : Nat → Int32} {S base cap : Nat} {B : β → Prop} (hg : GT g S) (hr : ∀ p, p ≤ S → rdOk S B p (rd p)) : ∀ fl n p, p ≤ S → base + n ≤ cap → lnOk S B base cap n (pLn rd g base cap fl n p)
  | 0, n, p, hp, _ => hp
  | fl + 1, n, p, hp, hc => by
    unfold pLn
    by_cases c : base + n = cap
    · rw [if_pos c]; exact hp
    · rw [if_neg c]
      have h := hr p hp
      generalize rd p = o at h
      match o, h with
      | .inl q, h => exact h
      | .inr (q, b), h =>
        dsimp only
        by_cases c2 : g q = 59
        · rw [if_pos c2]
          have qS : q < S := by
            rcases Nat.lt_or_ge q S with z | z
            · exact z
            · rw [hg.1 q z] at c2; exact absurd c2 (by decide)
          have ih := pLn_ok (base := base) (cap := cap) hg hr fl (n + 1) (q + 1) (by omega) (by omega)
          generalize pLn rd g base cap fl (n + 1) (q + 1) = o2 at ih
          match o2, ih with
          | .inl e, ih => exact ih
          | .inr (l, e), ih => exact ⟨by simp, by have := ih.2.1; rw [List.length_cons]; omega, ih.2.2.1, fun x hx => by
              rcases List.mem_cons.mp hx with z | z
              · rw [z]; exact h.2.2
              · exact ih.2.2.2 x z⟩
        · rw [if_neg c2]
          exact ⟨Nat.le_refl 1, by simp; omega, h.2.1, fun x hx => by
            rw [List.mem_singleton.mp hx]; exact h.2.2⟩
