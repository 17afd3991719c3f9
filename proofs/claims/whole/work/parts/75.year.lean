/-! the acts of a year, read -/
def rOn (g : Nat → Int32) : Nat → Nat → Nat → Nat → Nat × Nat
  | 0, p, _, b => (p, b)
  | n + 1, p, lo, b => if sIn (g p) 97 104 = true ∧ lo ≤ (g p).toNatClampNeg - 97 then rOn g n (p + 1) ((g p).toNatClampNeg - 97 + 1) (b ||| 2 ^ ((g p).toNatClampNeg - 97)) else (p, b)
def dgt (g : Nat → Int32) (p : Nat) : Bool := sIn (g p) 48 57
abbrev actT : Type := Int32 × Int32 × Int32
def rdA (g : Nat → Int32) (p : Nat) : Nat ⊕ (Nat × actT) :=
  if fX0_digitsOf (g p) = 0 then .inl p else if dgt g (p + 1) = false then .inl (p + 1) else
  if fX0_digitsOf (g p) = 1 then (if g p = 99 then .inr ((rOn g 9 (p + 2) 0 0).1, (g p, g (p + 1) - 48, nI (rOn g 9 (p + 2) 0 0).2)) else .inr (p + 2, (g p, g (p + 1) - 48, 0)))
  else if dgt g (p + 2) = false then .inl (p + 2) else .inr (p + 3, (g p, g (p + 1) - 48, g (p + 2) - 48))
def pAc (g : Nat → Int32) (S : Nat) : Nat → Nat → Nat ⊕ (List actT × Nat)
  | 0, p => .inr ([], p)
  | fl + 1, p => if S ≤ p then .inr ([], p) else match rdA g p with
    | .inl e => .inl e
    | .inr (q, a) => match pAc g S fl q with
      | .inl e => .inl e
      | .inr (l, e) => .inr (a :: l, e)
theorem pc_or : ∀ k, k < 8 → ∀ b, b < 2 ^ k → pcN (b ||| 2 ^ k) = pcN b + 1 := by decide +kernel
theorem rOn_ok {g : Nat → Int32} {S : Nat} (hg : GT g S) : ∀ n p lo b, p ≤ S → lo ≤ 8 → 9 ≤ lo + n → b < 2 ^ lo → p ≤ (rOn g n p lo b).1 ∧ (rOn g n p lo b).1 ≤ S ∧ (rOn g n p lo b).2 < 256 ∧ pcN (rOn g n p lo b).2 + p = pcN b + (rOn g n p lo b).1 ∧ ((rOn g n p lo b).2 = b ∨ True)
  | 0, p, lo, b, hp, hlo, hn, hb => absurd hn (by omega)
  | n + 1, p, lo, b, hp, hlo, hn, hb => by
    unfold rOn
    by_cases c : sIn (g p) 97 104 = true ∧ lo ≤ (g p).toNatClampNeg - 97
    · rw [if_pos c]
      obtain ⟨hpS, x, hx, x1, x2, e⟩ := hg.sIn (p := p) (by omega) (by omega) c.1
      have ek : (g p).toNatClampNeg - 97 = x - 97 := by rw [e, nI_clamp (by omega)]
      have c2 := c.2
      rw [ek] at c2 ⊢
      have hb2 : b < 2 ^ (x - 97) := Nat.lt_of_lt_of_le hb (Nat.pow_le_pow_right (by omega) c2)
      have hb3 : b ||| 2 ^ (x - 97) < 2 ^ (x - 97 + 1) := Nat.or_lt_two_pow (Nat.lt_of_lt_of_le hb2 (Nat.pow_le_pow_right (by omega) (by omega))) (Nat.pow_lt_pow_right (by omega) (by omega))
      have ih := rOn_ok hg n (p + 1) (x - 97 + 1) (b ||| 2 ^ (x - 97)) (by omega) (by omega) (by omega) hb3
      have hpc := pc_or (x - 97) (by omega) b hb2
      exact ⟨by have := ih.1; omega, ih.2.1, ih.2.2.1, by have := ih.2.2.2.1; omega, Or.inr trivial⟩
    · rw [if_neg c]
      exact ⟨Nat.le_refl p, hp, Nat.lt_of_lt_of_le hb (pow_le_256 hlo), rfl, Or.inl rfl⟩
theorem dgOf_cases (x : Int32) : (fX0_digitsOf x = 0) ∨ (fX0_digitsOf x = 1 ∧ (x = 99 ∨ x = 100)) ∨ (fX0_digitsOf x = 2 ∧ (x = 102 ∨ x = 103 ∨ x = 108)) := by
  unfold fX0_digitsOf
  by_cases h1 : x = 99
  · exact Or.inr (Or.inl ⟨by rw [if_pos h1], Or.inl h1⟩)
  · by_cases h2 : x = 100
    · exact Or.inr (Or.inl ⟨by rw [if_neg h1, if_pos h2], Or.inr h2⟩)
    · by_cases h3 : x = 102
      · exact Or.inr (Or.inr ⟨by rw [h3]; decide, Or.inl h3⟩)
      · by_cases h4 : x = 103
        · exact Or.inr (Or.inr ⟨by rw [h4]; decide, Or.inr (Or.inl h4)⟩)
        · by_cases h5 : x = 108
          · exact Or.inr (Or.inr ⟨by rw [h5]; decide, Or.inr (Or.inr h5)⟩)
          · refine Or.inl ?_
            rw [if_neg h1, if_neg h2, if_neg h3, if_neg h4, if_neg h5]
            repeat' split
            all_goals rfl
theorem dgOf_m1 : fX0_digitsOf (-1) = 0 := by decide
/-- what an act's numbers may be -/
def actOk (a : actT) : Prop := (∃ d : Nat, d < 10 ∧ a.2.1 = nI d) ∧ ((a.1 = 99 ∧ ∃ b : Nat, b < 256 ∧ a.2.2 = nI b) ∨ (a.1 = 100) ∨ a.1 = 102 ∨ a.1 = 103 ∨ a.1 = 108)
theorem dgt_eq {g : Nat → Int32} {S p : Nat} (hg : GT g S) (h : dgt g p = true) : p < S ∧ ∃ d : Nat, d < 10 ∧ g p - 48 = nI d := by
  obtain ⟨hp, x, hx, x1, x2, e⟩ := hg.sIn (p := p) (by omega) (by omega) h
  exact ⟨hp, x - 48, by omega, by rw [e]; exact pk_sub (b := 48) x1⟩
theorem rdA_ok {g : Nat → Int32} {S p : Nat} (hg : GT g S) (hp : p < S) : match rdA g p with
    | .inl e => e ≤ S
    | .inr (q, a) => p + 2 ≤ q ∧ q ≤ S ∧ actOk a := by
  unfold rdA
  by_cases c0 : fX0_digitsOf (g p) = 0
  · rw [if_pos c0]; exact Nat.le_of_lt hp
  · rw [if_neg c0]
    by_cases c1 : dgt g (p + 1) = false
    · rw [if_pos c1]; exact hp
    · rw [if_neg c1]
      have c1' : dgt g (p + 1) = true := by simpa using c1
      obtain ⟨h1, d, hd, ed⟩ := dgt_eq hg c1'
      rcases dgOf_cases (g p) with q | ⟨q, k⟩ | ⟨q, k⟩
      · exact absurd q c0
      · rw [if_pos q]
        by_cases c9 : g p = 99
        · rw [if_pos c9]
          have ok := rOn_ok hg 9 (p + 2) 0 0 (by omega) (by omega) (by omega) (by omega)
          exact ⟨ok.1, ok.2.1, ⟨d, hd, ed⟩, Or.inl ⟨c9, _, ok.2.2.1, rfl⟩⟩
        · rw [if_neg c9]
          exact ⟨Nat.le_refl _, by omega, ⟨d, hd, ed⟩, Or.inr (Or.inl (k.resolve_left c9))⟩
      · rw [if_neg (by rw [q]; decide)]
        by_cases c2 : dgt g (p + 2) = false
        · rw [if_pos c2]; show p + 2 ≤ S; omega
        · rw [if_neg c2]
          have c2' : dgt g (p + 2) = true := by simpa using c2
          obtain ⟨h2, -⟩ := dgt_eq hg c2'
          exact ⟨by omega, by omega, ⟨d, hd, ed⟩, Or.inr (Or.inr k)⟩
theorem pAc_ok {g : Nat → Int32} {S : Nat} (hg : GT g S) : ∀ fl p, p ≤ S → S < p + 2 * fl → match pAc g S fl p with
    | .inl e => e ≤ S
    | .inr (l, q) => q = S ∧ p + 2 * l.length ≤ S ∧ ∀ a ∈ l, actOk a
  | 0, p, hp, hf => absurd hf (by omega)
  | fl + 1, p, hp, hf => by
    unfold pAc
    by_cases c : S ≤ p
    · rw [if_pos c]
      exact ⟨by omega, by simp; omega, fun a ha => by cases ha⟩
    · rw [if_neg c]
      have h := rdA_ok hg (show p < S by omega)
      generalize rdA g p = o at h ⊢
      match o, h with
      | .inl e, h => exact h
      | .inr (q, a), h =>
        dsimp only
        obtain ⟨q1, q2, q3⟩ := h
        have ih := pAc_ok hg fl q q2 (by omega)
        generalize pAc g S fl q = o2 at ih ⊢
        match o2, ih with
        | .inl e, ih => exact ih
        | .inr (l, e), ih => exact ⟨ih.1, by have := ih.2.1; rw [List.length_cons]; omega, fun x hx => by
            rcases List.mem_cons.mp hx with z | z
            · rw [z]; exact q3
            · exact ih.2.2 x z⟩
/-! the reference -/
theorem shr_lt : ∀ k, k < 8 → ∀ b, b < 256 → (zshr (nI b) (nI k) = 0 ↔ b < 2 ^ k) := by decide +kernel
theorem m_rOn {g : Nat → Int32} {k most : Nat} (hg : GT g (min k most)) : ∀ n p lo b m R, p ≤ min k most → lo ≤ 8 → 9 ≤ lo + n → n < m → b < 2 ^ lo → (∀ j, j < 8 → (b < 2 ^ j ↔ lo ≤ j)) → TSt g k most R p none → ∃ T, fX12_risingOn_L2 m (nI b) R = some (nI (rOn g n p lo b).2, T) ∧ TSt g k most T (rOn g n p lo b).1 none ∧ FrI R T := by
  intro n
  induction n with
  | zero =>
    intro p lo b m R hp hlo hn
    exact absurd hn (by omega)
  | succ n ihn =>
    intro p lo b m R hp hlo hn hm hb hj t
    obtain ⟨m, rfl⟩ : ∃ q, m = q + 1 := ⟨m - 1, by omega⟩
    unfold rOn
    have hb256 : b < 256 := Nat.lt_of_lt_of_le hb (pow_le_256 hlo)
    by_cases c1 : sIn (g p) 97 104 = true
    · obtain ⟨hpS, x, hx, x1, x2, e⟩ := hg.sIn (p := p) (by omega) (by omega) c1
      have ek : (g p).toNatClampNeg - 97 = x - 97 := by rw [e, nI_clamp (by omega)]
      have ed : g p - 97 = nI (x - 97) := by rw [e]; exact pk_sub (b := 97) x1
      rw [ek]
      have hsh := shr_lt (x - 97) (by omega) b hb256
      have hin : fX12_in (g p) 97 104 = 1 := by
        have := in_sIn (g p) 97 104
        rw [if_pos c1] at this
        exact this
      by_cases c2 : lo ≤ x - 97
      · rw [if_pos ⟨c1, c2⟩]
        have hb2 : b < 2 ^ (x - 97) := Nat.lt_of_lt_of_le hb (Nat.pow_le_pow_right (by omega) c2)
        have hb3 : b ||| 2 ^ (x - 97) < 2 ^ (x - 97 + 1) := Nat.or_lt_two_pow (Nat.lt_of_lt_of_le hb2 (Nat.pow_le_pow_right (by omega) (by omega))) (Nat.pow_lt_pow_right (by omega) (by omega))
        obtain ⟨T, i1, i2, i3⟩ := ihn (p + 1) (x - 97 + 1) (b ||| 2 ^ (x - 97)) m (zSI R 36 16 (nI (p + 1))) (by omega) (by omega) (by omega) (by omega) hb3 (fun j hj8 => ⟨fun z => by
          rcases Nat.lt_or_ge (x - 97) j with w | w
          · omega
          · exfalso
            have h1 : 2 ^ (x - 97) ≤ b ||| 2 ^ (x - 97) := Nat.right_le_or
            have h2 : 2 ^ j ≤ 2 ^ (x - 97) := Nat.pow_le_pow_right (by omega) w
            omega, fun z => Nat.lt_of_lt_of_le hb3 (Nat.pow_le_pow_right (by omega) (by omega))⟩) (t.adv (by omega))
        refine ⟨T, ?_, i2, (FrI.adv R _).trans i3⟩
        rw [← i1]
        have s0 := hsh.mpr hb2
        simp only [fX12_risingOn_L2, t_fine1 t, show ¬ (1 : Int32) = 0 by decide, if_false, t_here hg t, Option.bind_some, hin, ed, if_pos s0, zlet, zshl_2 (show x - 97 < 31 by omega), nI_or, t.1.2.2.1, nI_1]
      · rw [if_neg (fun z => c2 z.2)]
        refine ⟨R, ?_, t, FrI.refl R⟩
        have s0 : ¬ zshr (nI b) (nI (x - 97)) = 0 := fun z => c2 ((hj (x - 97) (by omega)).mp (hsh.mp z))
        simp only [fX12_risingOn_L2, t_fine1 t, show ¬ (1 : Int32) = 0 by decide, if_false, t_here hg t, Option.bind_some, hin, ed, if_neg s0]
    · rw [if_neg (fun z => c1 z.1)]
      refine ⟨R, ?_, t, FrI.refl R⟩
      have hin : fX12_in (g p) 97 104 = 0 := by
        have := in_sIn (g p) 97 104
        rw [if_neg c1] at this
        exact this
      simp only [fX12_risingOn_L2, t_fine1 t, show ¬ (1 : Int32) = 0 by decide, if_false, t_here hg t, Option.bind_some, hin, if_true]
def FrY (M N : zM) : Prop := (∀ q, q ≠ 36 → q ≠ 50 → N.1 q = M.1 q) ∧ (∀ j, j ≠ 16 → j ≠ 17 → N.1 36 j = M.1 36 j) ∧ N.2 = M.2
theorem FrY.refl (M : zM) : FrY M M := ⟨fun _ _ _ => rfl, fun _ _ _ => rfl, rfl⟩
theorem FrY.trans {A B C : zM} (h : FrY A B) (g : FrY B C) : FrY A C := ⟨fun q a b => (g.1 q a b).trans (h.1 q a b), fun j a b => (g.2.1 j a b).trans (h.2.1 j a b), g.2.2.trans h.2.2⟩
theorem FrI.Y {M N : zM} (h : FrI M N) : FrY M N := ⟨fun q a _ => h.1 q a, h.2.1, h.2.2⟩
theorem FrY.SI (M : zM) (j : Nat) (x : Int32) : FrY M (zSI M 50 j x) := ⟨fun q _ b => zSI_other _ _ _ b, fun _ _ _ => by rw [zSI_other _ _ _ (by decide)], rfl⟩
/-- one act, read by the reference into places i, i + 1, i + 2 -/
def raM (g : Nat → Int32) (k most i : Nat) (R : zM) (o : Option zM) : Nat ⊕ (Nat × actT) → Prop
  | .inl e => ∃ T p, o = some T ∧ TSt g k most T p (some e) ∧ FrY R T
  | .inr (q, a) => ∃ T, o = some T ∧ TSt g k most T q none ∧ FrY R T ∧ (T.1 50 i = a.1 ∧ T.1 50 (i + 1) = a.2.1 ∧ (a.1 = 100 ∨ T.1 50 (i + 2) = a.2.2)) ∧ ∀ j, j < i → T.1 50 j = R.1 50 j
theorem m_readAct {g : Nat → Int32} {k most i p : Nat} {R : zM} (hg : GT g (min k most)) (hi : i + 2 < 240) (hp : p < min k most) (t : TSt g k most R p none) : raM g k most i R (fX12_readAct (nI i) R) (rdA g p) := by
  have i31 : i < 2 ^ 31 := by omega
  have ha : fX12_here R = some (g p) := t_here hg t
  unfold rdA
  by_cases c0 : fX0_digitsOf (g p) = 0
  · rw [if_pos c0]
    have n1 : ¬ g p = 108 := fun z => by rw [z] at c0; exact absurd c0 (by decide)
    have n2 : ¬ g p = 102 := fun z => by rw [z] at c0; exact absurd c0 (by decide)
    have n3 : ¬ g p = 99 := fun z => by rw [z] at c0; exact absurd c0 (by decide)
    have n4 : ¬ g p = 103 := fun z => by rw [z] at c0; exact absurd c0 (by decide)
    have n5 : ¬ g p = 100 := fun z => by rw [z] at c0; exact absurd c0 (by decide)
    refine ⟨zSI R 36 17 (nI p), p, ?_, t.flt, (FrI.flt R _).Y⟩
    simp only [fX12_readAct, ha, Option.bind_some, zj, if_neg n1, if_neg n2, if_neg n3, if_neg n4, if_neg n5, zlet, t_fault1 t, t.1.2.2.1]
  · rw [if_neg c0]
    -- all that act letters share
    generalize hR1 : zSI (zSI R 36 16 (nI (p + 1))) 50 i (g p) = R1
    have t1 : TSt g k most R1 (p + 1) none := by subst hR1; exact (t.adv (by omega)).SI (by decide) _
    have fr1 : FrY R R1 := by subst hR1; exact (FrI.adv R _).Y.trans (FrY.SI _ _ _)
    have v1 : ∀ j, R1.1 50 j = if j = i then g p else R.1 50 j := fun j => by
      subst hR1
      rw [gSI]
      by_cases z : j = i
      · rw [if_pos ⟨rfl, z⟩, if_pos z]
      · rw [if_neg (fun w => z w.2), if_neg z, zSI_other _ _ _ (by decide)]
    have head : fX12_readAct (nI i) R = (fX12_oneOf 48 10 R1).bind (fun q => zp q fun r5 M73 => if zin (nI (i + 1)) 240 then zlet (zSI M73 50 (i + 1) r5) fun (M76 : zM) => if g p = 99 then ((fX12_risingOn M76).bind fun (q : Int32 × zM) => zp q fun r9 M91 => if zin (nI (i + 2)) 240 then zlet (zSI M91 50 (i + 2) r9) fun (M94 : zM) => some M94 else none) else (if g p = 100 then some M76 else ((fX12_oneOf 48 10 M76).bind fun (q : Int32 × zM) => zp q fun r7 M116 => if zin (nI (i + 2)) 240 then zlet (zSI M116 50 (i + 2) r7) fun (M119 : zM) => some M119 else none)) else none) := by
      have hl : g p = 108 ∨ g p = 102 ∨ g p = 99 ∨ g p = 103 ∨ g p = 100 := by
        rcases dgOf_cases (g p) with q | ⟨-, q | q⟩ | ⟨-, q | q | q⟩
        · exact absurd q c0
        · exact Or.inr (Or.inr (Or.inl q))
        · exact Or.inr (Or.inr (Or.inr (Or.inr q)))
        · exact Or.inr (Or.inl q)
        · exact Or.inr (Or.inr (Or.inr (Or.inl q)))
        · exact Or.inl q
      unfold fX12_readAct
      rw [ha]
      simp only [Option.bind_some, zj, zlet, t.1.2.2.1, nI_1, if_pos (zinT (show i < 240 by omega) i31), nI_clamp i31, hR1, show nI i + 2 = nI (i + 2) from nI_add i 2, nI_clamp (show i + 1 < 2 ^ 31 by omega), nI_clamp (show i + 2 < 2 ^ 31 by omega)]
      rcases hl with q | q | q | q | q
      · rw [if_pos q]
      · rw [if_neg (by rw [q]; decide), if_pos q]
      · rw [if_neg (by rw [q]; decide), if_neg (by rw [q]; decide), if_pos q]
      · rw [if_neg (by rw [q]; decide), if_neg (by rw [q]; decide), if_neg (by rw [q]; decide), if_pos q]
      · rw [if_neg (by rw [q]; decide), if_neg (by rw [q]; decide), if_neg (by rw [q]; decide), if_neg (by rw [q]; decide), if_pos q]
    have in1 : zin (nI (i + 1)) 240 := zinT (by omega) (by omega)
    have in2 : zin (nI (i + 2)) 240 := zinT (by omega) (by omega)
    by_cases c1 : dgt g (p + 1) = false
    · rw [if_pos c1]
      have e1 : fX12_oneOf 48 10 R1 = some (0, zSI R1 36 17 (nI (p + 1))) := t_oneF hg t1 (f := 48) (m := 10) (by omega) (by omega) c1
      generalize hT : zSI (zSI R1 36 17 (nI (p + 1))) 50 (i + 1) 0 = T
      have tT : TSt g k most T (p + 1) (some (p + 1)) := by subst hT; exact t1.flt.SI (by decide) _
      have frT : FrY R T := by subst hT; exact fr1.trans ((FrI.flt R1 _).Y.trans (FrY.SI _ _ _))
      have rO : fX12_risingOn T = some (0, T) := by
        have : ∀ m, fX12_risingOn_L2 (m + 1) 0 T = some (0, T) := fun m => by simp only [fX12_risingOn_L2, t_fine0 tT, if_true]
        unfold fX12_risingOn
        rw [this 3999]; rfl
      have oO : fX12_oneOf 48 10 T = some (0, T) := t_one0 tT 48 10
      rw [head, e1]
      simp only [Option.bind_some, zp, if_pos in1, zlet, hT]
      by_cases q9 : g p = 99
      · rw [if_pos q9, rO]
        simp only [Option.bind_some, zp, if_pos in2]
        exact ⟨zSI T 50 (i + 2) 0, p + 1, rfl, tT.SI (by decide) _, frT.trans (FrY.SI _ _ _)⟩
      · rw [if_neg q9]
        by_cases q0 : g p = 100
        · rw [if_pos q0]
          exact ⟨T, p + 1, rfl, tT, frT⟩
        · rw [if_neg q0, oO]
          simp only [Option.bind_some, zp, if_pos in2]
          exact ⟨zSI T 50 (i + 2) 0, p + 1, rfl, tT.SI (by decide) _, frT.trans (FrY.SI _ _ _)⟩
    · rw [if_neg c1]
      have c1' : dgt g (p + 1) = true := by simpa using c1
      have e1 : fX12_oneOf 48 10 R1 = some (g (p + 1) - 48, zSI R1 36 16 (nI (p + 1 + 1))) := t_one1 hg t1 (f := 48) (m := 10) (by omega) (by omega) (by omega) c1'
      have h1S : p + 1 < min k most := (dgt_eq hg c1').1
      generalize hT : zSI (zSI R1 36 16 (nI (p + 1 + 1))) 50 (i + 1) (g (p + 1) - 48) = T
      have tT : TSt g k most T (p + 2) none := by subst hT; exact (t1.adv (by omega)).SI (by decide) _
      have frT : FrY R T := by subst hT; exact fr1.trans ((FrI.adv R1 _).Y.trans (FrY.SI _ _ _))
      have vT : ∀ j, T.1 50 j = if j = i + 1 then g (p + 1) - 48 else if j = i then g p else R.1 50 j := fun j => by
        subst hT
        rw [gSI]
        by_cases z : j = i + 1
        · rw [if_pos ⟨rfl, z⟩, if_pos z]
        · rw [if_neg (fun w => z w.2), if_neg z, zSI_other _ _ _ (by decide), v1]
      rw [head, e1]
      simp only [Option.bind_some, zp, if_pos in1, zlet, hT]
      rcases dgOf_cases (g p) with q | ⟨q, kk⟩ | ⟨q, kk⟩
      · exact absurd q c0
      · rw [if_pos q]
        by_cases q9 : g p = 99
        · rw [if_pos q9, if_pos q9]
          obtain ⟨T2, u1, u2, u3⟩ := m_rOn hg 9 (p + 2) 0 0 4000 T (by omega) (by omega) (by omega) (by omega) (by omega) (fun j _ => ⟨fun _ => Nat.zero_le j, fun _ => Nat.two_pow_pos j⟩) tT
          have rO : fX12_risingOn T = some (nI (rOn g 9 (p + 2) 0 0).2, T2) := by
            unfold fX12_risingOn
            rw [show fX12_risingOn_L2 4000 0 T = some (nI (rOn g 9 (p + 2) 0 0).2, T2) from u1]; rfl
          rw [rO]
          simp only [Option.bind_some, zp, if_pos in2]
          refine ⟨_, rfl, u2.SI (by decide) _, (frT.trans u3.Y).trans (FrY.SI _ _ _), ⟨?_, ?_, Or.inr ?_⟩, fun j hj => ?_⟩
          · rw [gSI, if_neg (by omega), u3.1 50 (by omega), vT, if_neg (by omega), if_pos rfl]
          · rw [gSI, if_neg (by omega), u3.1 50 (by omega), vT, if_pos rfl]
          · rw [gSI, if_pos ⟨rfl, rfl⟩]
          · rw [gSI, if_neg (by omega), u3.1 50 (by omega), vT, if_neg (by omega), if_neg (by omega)]
        · have q0 := kk.resolve_left q9
          rw [if_neg q9, if_neg q9, if_pos q0]
          refine ⟨T, rfl, tT, frT, ⟨?_, ?_, Or.inl q0⟩, fun j hj => by rw [vT, if_neg (by omega), if_neg (by omega)]⟩
          · rw [vT, if_neg (by omega), if_pos rfl]
          · rw [vT, if_pos rfl]
      · have q9 : ¬ g p = 99 := fun z => by rw [z] at q; exact absurd q (by decide)
        have q0 : ¬ g p = 100 := fun z => by rw [z] at q; exact absurd q (by decide)
        rw [if_neg q9, if_neg q0, if_neg (show ¬ fX0_digitsOf (g p) = 1 by rw [q]; decide)]
        by_cases c2 : dgt g (p + 2) = false
        · rw [if_pos c2]
          have e2 : fX12_oneOf 48 10 T = some (0, zSI T 36 17 (nI (p + 2))) := t_oneF hg tT (f := 48) (m := 10) (by omega) (by omega) c2
          rw [e2]
          simp only [Option.bind_some, zp, if_pos in2]
          exact ⟨_, p + 2, rfl, tT.flt.SI (by decide) _, frT.trans ((FrI.flt T _).Y.trans (FrY.SI _ _ _))⟩
        · rw [if_neg c2]
          have c2' : dgt g (p + 2) = true := by simpa using c2
          have h2S : p + 2 < min k most := (dgt_eq hg c2').1
          have e2 : fX12_oneOf 48 10 T = some (g (p + 2) - 48, zSI T 36 16 (nI (p + 2 + 1))) := t_one1 hg tT (f := 48) (m := 10) (by omega) (by omega) (by omega) c2'
          rw [e2]
          simp only [Option.bind_some, zp, if_pos in2]
          refine ⟨_, rfl, (tT.adv (by omega)).SI (by decide) _, frT.trans ((FrI.adv T _).Y.trans (FrY.SI _ _ _)), ⟨?_, ?_, Or.inr ?_⟩, fun j hj => ?_⟩
          · rw [gSI, if_neg (by omega), zSI_other _ _ _ (by decide), vT, if_neg (by omega), if_pos rfl]
          · rw [gSI, if_neg (by omega), zSI_other _ _ _ (by decide), vT, if_pos rfl]
          · rw [gSI, if_pos ⟨rfl, rfl⟩]
          · rw [gSI, if_neg (by omega), zSI_other _ _ _ (by decide), vT, if_neg (by omega), if_neg (by omega)]
def raL (g : Nat → Int32) (k most n : Nat) (R : zM) (o : Option (Int32 × zM)) : Nat ⊕ (List actT × Nat) → Prop
  | .inl e => ∃ x T p, o = some (x, T) ∧ TSt g k most T p (some e) ∧ FrY R T
  | .inr (l, q) => (q = k ∧ ∃ T, o = some (nI (n + l.length), T) ∧ TSt g k most T q none ∧ FrY R T ∧ (∀ i a, l[i]? = some a → T.1 50 (3 * (n + i)) = a.1 ∧ T.1 50 (3 * (n + i) + 1) = a.2.1 ∧ (a.1 = 100 ∨ T.1 50 (3 * (n + i) + 2) = a.2.2)) ∧ ∀ j, j < 3 * n → T.1 50 j = R.1 50 j) ∨ (q < k ∧ ∃ x T p, o = some (x, T) ∧ TSt g k most T p (some q) ∧ FrY R T)
theorem m_yearL {g : Nat → Int32} {k most : Nat} (hg : GT g (min k most)) (h60 : most ≤ 60) : ∀ fl n p m R, p ≤ min k most → min k most < p + 2 * fl → 2 * n ≤ p → fl + 2 < m → TSt g k most R p none → raL g k most n R (fX12_year_L13 m (nI n) R) (pAc g (min k most) fl p) := by
  intro fl
  induction fl with
  | zero =>
    intro n p m R hp hf
    exact absurd hf (by omega)
  | succ fl ihL =>
    intro n p m R hp hf hn hm t
    obtain ⟨m, rfl⟩ : ∃ q, m = q + 1 := ⟨m - 1, by omega⟩
    have hk80 := t.2.2.1
    have f1 := t_fine1 t
    have e3 : (3 : Int32) * nI n = nI (3 * n) := pk_mul 3 n
    unfold pAc
    by_cases c : min k most ≤ p
    · rw [if_pos c]
      have ep : p = min k most := by omega
      rcases Nat.lt_or_ge p k with z | z
      · refine Or.inr ⟨z, ?_⟩
        obtain ⟨m, rfl⟩ : ∃ q, m = q + 1 := ⟨m - 1, by omega⟩
        have eh : fX12_readAct (nI (3 * n)) R = some (zSI R 36 17 (nI p)) := by
          have hh : fX12_here R = some (-1) := by rw [t_here hg t, hg.1 p c]
          simp only [fX12_readAct, hh, Option.bind_some, zj, if_neg (show ¬ (-1 : Int32) = 108 by decide), if_neg (show ¬ (-1 : Int32) = 102 by decide), if_neg (show ¬ (-1 : Int32) = 99 by decide), if_neg (show ¬ (-1 : Int32) = 103 by decide), if_neg (show ¬ (-1 : Int32) = 100 by decide), zlet, t_fault1 t, t.1.2.2.1]
        refine ⟨nI (n + 1), zSI R 36 17 (nI p), p, ?_, t.flt, (FrI.flt R _).Y⟩
        have stop : ∀ x, fX12_year_L13 (m + 1) x (zSI R 36 17 (nI p)) = some (x, zSI R 36 17 (nI p)) := fun x => by simp only [fX12_year_L13, t_fine0 t.flt, if_true]
        rw [fX12_year_L13.eq_2]
        simp only [f1, show ¬ (1 : Int32) = 0 by decide, if_false, t.1.1, t.1.2.2.1, if_neg (leF z (show k < 2 ^ 31 by omega)), e3, eh, Option.bind_some, nI_1]
        exact stop _
      · refine Or.inl ⟨by omega, R, ?_, t, FrY.refl R, (fun i a hi => by cases hi), fun _ _ => rfl⟩
        simp only [fX12_year_L13, f1, show ¬ (1 : Int32) = 0 by decide, if_false, t.1.1, t.1.2.2.1, if_pos (leT (show k ≤ p by omega) (show p < 2 ^ 31 by omega))]
        rfl
    · rw [if_neg c]
      have hpS : p < min k most := by omega
      have hr := m_readAct (i := 3 * n) hg (by omega) hpS t
      have ok := rdA_ok hg hpS
      have pre : fX12_year_L13 (m + 1) (nI n) R = (fX12_readAct (nI (3 * n)) R).bind (fun M35 => fX12_year_L13 m (nI (n + 1)) M35) := by
        rw [fX12_year_L13.eq_2]
        simp only [f1, show ¬ (1 : Int32) = 0 by decide, if_false, t.1.1, t.1.2.2.1, if_neg (leF (show p < k by omega) (show k < 2 ^ 31 by omega)), e3, nI_1]
      rw [pre]
      generalize rdA g p = o at hr ok ⊢
      match o, hr, ok with
      | .inl e, ⟨T, p2, g1, g2, g3⟩, ok =>
        obtain ⟨m, rfl⟩ : ∃ q, m = q + 1 := ⟨m - 1, by omega⟩
        refine ⟨nI (n + 1), T, p2, ?_, g2, g3⟩
        rw [g1, Option.bind_some]
        simp only [fX12_year_L13, t_fine0 g2, if_true]
      | .inr (q, a), ⟨T, g1, g2, g3, g4, g5⟩, ok =>
        rw [g1, Option.bind_some]
        have ih := ihL (n + 1) q m T ok.2.1 (by have := ok.1; omega) (by have := ok.1; omega) (by omega) g2
        dsimp only
        generalize pAc g (min k most) fl q = o2 at ih ⊢
        match o2, ih with
        | .inl e, ⟨x, T2, p2, i1, i2, i3⟩ => exact ⟨x, T2, p2, i1, i2, g3.trans i3⟩
        | .inr (l, e), Or.inr ⟨j0, x, T2, p2, i1, i2, i3⟩ => exact Or.inr ⟨j0, x, T2, p2, i1, i2, g3.trans i3⟩
        | .inr (l, e), Or.inl ⟨j0, T2, i1, i2, i3, i4, i5⟩ =>
          refine Or.inl ⟨j0, T2, ?_, i2, g3.trans i3, fun i b hi => ?_, fun j hj => by rw [i5 j (by omega), g5 j hj]⟩
          · rw [i1, List.length_cons, show n + (l.length + 1) = n + 1 + l.length by omega]
          · cases i with
            | zero =>
              cases hi
              simp only [Nat.add_zero]
              rw [i5 (3 * n) (by omega), i5 (3 * n + 1) (by omega), i5 (3 * n + 2) (by omega)]
              exact g4
            | succ i =>
              have := i4 i b hi
              rw [show n + (i + 1) = n + 1 + i by omega]; exact this
