/-! the acts of a year, read by the class -/
section CYR
variable {g : Nat → Int32} {stop k : Nat}
/-- the class has the signs of g -/
def CTx (g : Nat → Int32) (stop k : Nat) (C : zM) : Prop := C.1 1 1 = nI k ∧ ∀ j, j < stop → C.1 2 j = g j
theorem c_sign (hg : GT g stop) (hst : stop ≤ k) (hk : k ≤ 80) {p : Nat} {C : zM} (h : CTx g stop k C) (hp : p < stop) : fX9_signAt (nI p) C = some (g p) := by
  rw [p_signAt h.1 hk (by omega), h.2 p hp]
theorem c_rOn (hg : GT g stop) (hst : stop ≤ k) (hk : k ≤ 80) {C : zM} (h : CTx g stop k C) : ∀ n p lo b m, p ≤ stop → lo ≤ 8 → 9 ≤ lo + n → n < m → ∃ o, fX0_readMarks_L8 (nI stop) C m (nI b) (nI lo - 1) (nI p) = some o ∧ (o = .inl (nI (rOn g n p lo b).2) ∨ o = .inr (nI (rOn g n p lo b).2)) := by
  intro n
  induction n with
  | zero =>
    intro p lo b m hp hlo hn
    exact absurd hn (by omega)
  | succ n ihn =>
    intro p lo b m hp hlo hn hm
    obtain ⟨m, rfl⟩ : ∃ q, m = q + 1 := ⟨m - 1, by omega⟩
    rcases Nat.lt_or_ge p stop with hps | hps
    · obtain ⟨x, hx, e⟩ := hg.2 p hps
      have es : fX9_signAt (nI p) C = some (nI x) := by rw [c_sign hg hst hk h hps, e]
      unfold rOn
      by_cases c : sIn (g p) 97 104 = true ∧ lo ≤ (g p).toNatClampNeg - 97
      · rw [if_pos c]
        obtain ⟨-, y, hy, y1, y2, ey⟩ := hg.sIn (p := p) (by omega) (by omega) c.1
        have exy : x = y := by rw [e] at ey; exact (nI_eq (by omega) (by omega)).mp ey
        subst exy
        have ek : (g p).toNatClampNeg - 97 = x - 97 := by rw [e, nI_clamp (by omega)]
        have c2 := c.2
        rw [ek] at c2 ⊢
        have ed : nI x - 97 = nI (x - 97) := pk_sub (b := 97) y1
        have c3 : ¬ nI (x - 97) ≤ nI lo - 1 := fun z => by
          have := (le_pred (k := x - 97) (lo := lo) (by omega) (by omega)).mp z
          omega
        have ih := ihn (p + 1) (x - 97 + 1) (b ||| 2 ^ (x - 97)) m (by omega) (by omega) (by omega) (by omega)
        rw [nI_pred] at ih
        obtain ⟨o, i1, i2⟩ := ih
        refine ⟨o, ?_, i2⟩
        rw [← i1, fX0_readMarks_L8.eq_2]
        simp only [if_neg (leF hps (show stop < 2 ^ 31 by omega)), es, Option.bind_some, zlet, ed, if_neg c3, if_pos (show nI (x - 97) < 8 from ltT (b := 8) (by omega) (by omega)), zshl_2 (show x - 97 < 31 by omega), nI_or, nI_1]
      · rw [if_neg c]
        refine ⟨.inl (nI b), ?_, Or.inl rfl⟩
        rw [fX0_readMarks_L8.eq_2]
        simp only [if_neg (leF hps (show stop < 2 ^ 31 by omega)), es, Option.bind_some, zlet]
        by_cases c1 : sIn (g p) 97 104 = true
        · obtain ⟨-, y, hy, y1, y2, ey⟩ := hg.sIn (p := p) (by omega) (by omega) c1
          have exy : x = y := by rw [e] at ey; exact (nI_eq (by omega) (by omega)).mp ey
          subst exy
          have ek : (g p).toNatClampNeg - 97 = x - 97 := by rw [e, nI_clamp (by omega)]
          have c2 : x - 97 < lo := by
            rcases Nat.lt_or_ge (x - 97) lo with z | z
            · exact z
            · exact absurd ⟨c1, by rw [ek]; exact z⟩ c
          rw [show nI x - 97 = nI (x - 97) from pk_sub (b := 97) y1, if_pos ((le_pred (by omega) (by omega)).mpr c2)]
        · have c1' : sIn (nI x) 97 (97 + 7) = false := by rw [← e]; simpa using c1
          rcases out_sign (f := 97) (many := 8) (lo := lo) (by omega) hx hlo (by omega) c1' with z | ⟨z1, z2⟩
          · rw [if_pos (show nI x - 97 ≤ nI lo - 1 from z)]
          · rw [if_neg (show ¬ nI x - 97 ≤ nI lo - 1 from z1), if_neg (show ¬ nI x - 97 < 8 from z2)]
    · have no : ¬ (sIn (g p) 97 104 = true ∧ lo ≤ (g p).toNatClampNeg - 97) := fun z => by
        have := z.1
        rw [hg.1 p hps, sIn_m1 (by omega)] at this
        cases this
      unfold rOn
      rw [if_neg no]
      refine ⟨.inr (nI b), ?_, Or.inr rfl⟩
      rw [fX0_readMarks_L8.eq_2, if_pos (leT hps (by omega))]
theorem c_marks (hg : GT g stop) (hst : stop ≤ k) (hk : k ≤ 80) {C : zM} (h : CTx g stop k C) {p : Nat} (hp : p ≤ stop) : fX0_readMarks (nI p) (nI stop) C = some (nI (rOn g 9 p 0 0).2) := by
  obtain ⟨o, e, d⟩ := c_rOn hg hst hk h 9 p 0 0 4000 hp (by omega) (by omega) (by omega)
  rw [m1e] at e
  unfold fX0_readMarks
  rw [show fX0_readMarks_L8 (nI stop) C 4000 0 (-1) (nI p) = some o from e]
  rcases d with d | d
  · rw [d]; rfl
  · rw [d]; rfl
theorem c_dig (hg : GT g stop) (hst : stop ≤ k) (hk : k ≤ 80) {C : zM} (h : CTx g stop k C) {p d : Nat} {x4 x5 : Int32} (hp : p < stop) (hd : d < 9) (h5 : ¬ x5 < nI d) (m : Nat) : fX0_readFrom_L52 (nI stop) (nI p) x4 x5 C (m + 1) (nI d) = if dgt g (p + d) = false then some (.inl (nI (p + d), C)) else fX0_readFrom_L52 (nI stop) (nI p) x4 x5 C m (nI (d + 1)) := by
  rw [fX0_readFrom_L52.eq_2, if_neg h5, nI_add]
  rcases Nat.lt_or_ge (p + d) stop with hps | hps
  · obtain ⟨x, hx, e⟩ := hg.2 (p + d) hps
    rw [if_neg (leF hps (show stop < 2 ^ 31 by omega)), c_sign hg hst hk h hps, e]
    unfold dgt
    rw [e, sIn_nI (by omega) (by omega) (by omega)]
    simp only [Option.bind_some, nI_1]
    by_cases c1 : x < 48
    · rw [if_pos (show nI x < 48 from ltT (b := 48) c1 (by omega)), if_pos (decide_eq_false (by omega))]
    · rw [if_neg (show ¬ nI x < 48 from ltF (b := 48) (by omega) (by omega))]
      by_cases c2 : x ≤ 57
      · rw [if_pos (show nI x ≤ 57 from leT (b := 57) c2 (by omega)), if_neg (by simp; omega)]
      · rw [if_neg (show ¬ nI x ≤ 57 from leF (b := 57) (by omega) (by omega)), if_pos (decide_eq_false (by omega))]
  · rw [if_pos (leT hps (by omega)), if_pos]
    unfold dgt
    rw [hg.1 _ hps, sIn_m1 (by omega)]
def CgA (i : Nat) (M T : zM) : Prop := T.2 = M.2 ∧ (∀ q, q ≠ 22 → q ≠ 23 → q ≠ 24 → q ≠ 25 → T.1 q = M.1 q) ∧ (∀ j, j ≠ 3 → T.1 22 j = M.1 22 j) ∧ ∀ j, j < i → T.1 23 j = M.1 23 j ∧ T.1 24 j = M.1 24 j ∧ T.1 25 j = M.1 25 j
theorem CgA.refl (i : Nat) (M : zM) : CgA i M M := ⟨rfl, fun _ _ _ _ _ => rfl, fun _ _ => rfl, fun _ _ => ⟨rfl, rfl, rfl⟩⟩
theorem CgA.trans {i i' : Nat} {A B C : zM} (h : CgA i A B) (g : CgA i' B C) (hi : i ≤ i') : CgA i A C := ⟨g.1.trans h.1, fun q a b c d => (g.2.1 q a b c d).trans (h.2.1 q a b c d), fun j hj => (g.2.2.1 j hj).trans (h.2.2.1 j hj), fun j hj => ⟨(g.2.2.2 j (by omega)).1.trans (h.2.2.2 j hj).1, (g.2.2.2 j (by omega)).2.1.trans (h.2.2.2 j hj).2.1, (g.2.2.2 j (by omega)).2.2.trans (h.2.2.2 j hj).2.2⟩⟩
theorem CgA.tx {i : Nat} {M T : zM} (h : CgA i M T) (t : CTx g stop k M) : CTx g stop k T := ⟨by rw [h.2.1 1 (by omega) (by omega) (by omega) (by omega)]; exact t.1, fun j hj => by rw [h.2.1 2 (by omega) (by omega) (by omega) (by omega)]; exact t.2 j hj⟩
def putA (C : zM) (i : Nat) (a : actT) : zM := zSI (zSI (zSI C 23 i a.1) 24 i a.2.1) 25 i a.2.2
theorem putA_A (C : zM) (i : Nat) (a : actT) : CgA i C (putA C i a) := ⟨rfl, fun q _ b c d => by unfold putA; rw [zSI_other _ _ _ d, zSI_other _ _ _ c, zSI_other _ _ _ b], fun j _ => by unfold putA; rw [zSI_other _ _ _ (by decide), zSI_other _ _ _ (by decide), zSI_other _ _ _ (by decide)], fun j hj => ⟨by unfold putA; rw [zSI_other _ _ _ (by decide), zSI_other _ _ _ (by decide), gSI, if_neg (by omega)], by unfold putA; rw [zSI_other _ _ _ (by decide), gSI, if_neg (by omega), zSI_other _ _ _ (by decide)], by unfold putA; rw [gSI, if_neg (by omega), zSI_other _ _ _ (by decide), zSI_other _ _ _ (by decide)]⟩⟩
theorem putA_v (C : zM) (i : Nat) (a : actT) : (putA C i a).1 23 i = a.1 ∧ (putA C i a).1 24 i = a.2.1 ∧ (putA C i a).1 25 i = a.2.2 := ⟨by unfold putA; rw [zSI_other _ _ _ (by decide), zSI_other _ _ _ (by decide), gSI, if_pos ⟨rfl, rfl⟩], by unfold putA; rw [zSI_other _ _ _ (by decide), gSI, if_pos ⟨rfl, rfl⟩], by unfold putA; rw [gSI, if_pos ⟨rfl, rfl⟩]⟩
theorem zSI_tw (M : zM) (q j : Nat) (x y : Int32) : zSI (zSI M q j x) q j y = zSI M q j y := by
  unfold zSI
  refine Prod.ext ?_ rfl
  funext a b
  dsimp only
  split <;> rfl
def raC (g : Nat → Int32) (stop m i : Nat) (C : zM) (o : Option ((Int32 × zM) ⊕ (Int32 × zM))) : Nat ⊕ (Nat × actT) → Prop
  | .inl e => o = some (.inl (nI e, C))
  | .inr (q, a) => o = fX0_readFrom_L20 (nI stop) m (nI q) (nI (i + 1)) (zSI (putA C i a) 22 3 (nI (i + 1)))
theorem c_act (hg : GT g stop) (hst : stop ≤ k) (hk : k ≤ 80) {C : zM} (h : CTx g stop k C) {p i : Nat} (hp : p < stop) (hi : i < 30) (h3 : C.1 22 3 = nI i) (m : Nat) : raC g stop m i C (fX0_readFrom_L20 (nI stop) (m + 1) (nI p) (nI i) C) (rdA g p) := by
  have i31 : i < 2 ^ 31 := by omega
  have es := c_sign hg hst hk h hp
  have h30 : ¬ (30 : Int32) ≤ nI i := leF (a := 30) hi (by omega)
  have hS : ¬ nI stop ≤ nI p := leF hp (by omega)
  have inI : zin (nI i) 30 := zinT hi i31
  have pN : p < 2 ^ 31 := by omega
  -- what lies behind the digits
  have tail : ∀ (x5 : Int32) (m' : Nat), (fX0_readFrom_L52 (nI stop) (nI p) (nI i) x5 C 4000 1) = some (.inr ()) → ¬ fX0_digitsOf (g p) = 0 → fX0_digitsOf (g p) = x5 → p + 1 < stop → fX0_readFrom_L20 (nI stop) (m + 1) (nI p) (nI i) C = ((if x5 ≤ 1 then some 0 else (fX9_signAt (nI (p + 2)) (zSI (zSI C 23 i (g p)) 24 i (g (p + 1) - 48))).bind fun r9 => some (r9 - 48) : Option Int32).bind fun s0 => (if g p = 99 then (fX0_readMarks (nI p + (1 + x5)) (nI stop) (putA C i (g p, g (p + 1) - 48, s0))).bind fun r11 => some (nI p + (1 + x5) + fJ6_bitCount_0f7a4 r11, zSI (putA C i (g p, g (p + 1) - 48, s0)) 25 i r11) else some (nI p + (1 + x5), putA C i (g p, g (p + 1) - 48, s0)) : Option (Int32 × zM)).bind fun q => zp q fun x3 M => fX0_readFrom_L20 (nI stop) m x3 (nI (i + 1)) (zSI M 22 3 (M.1 22 3 + 1))) := by
    intro x5 m' e52 n0 e5 hp1
    have h' : CTx g stop k (zSI C 23 i (g p)) := ⟨by rw [zSI_other _ _ _ (by decide)]; exact h.1, fun j hj => by rw [zSI_other _ _ _ (by decide)]; exact h.2 j hj⟩
    have es1 := c_sign hg hst hk h' hp1
    rw [fX0_readFrom_L20.eq_2, if_neg h30, if_neg hS, es]
    simp only [Option.bind_some, zlet, if_neg n0, e5, zs]
    rw [e52]
    simp only [Option.bind_some, zs, if_pos inI, nI_clamp i31, nI_1, es1]
    have v23 : ∀ s, (zSI (zSI (zSI C 23 i (g p)) 24 i (g (p + 1) - 48)) 25 i s).1 23 i = g p := fun s => (putA_v C i (g p, g (p + 1) - 48, s)).1
    have v25 : ∀ s r, (zSI (zSI (zSI (zSI C 23 i (g p)) 24 i (g (p + 1) - 48)) 25 i s) 25 i r).1 25 i = r := fun s r => by rw [gSI, if_pos ⟨rfl, rfl⟩]
    rw [show nI p + 2 = nI (p + 2) from nI_add p 2]
    simp only [v23, v25]
    rw [if_neg (show ¬ x5 = 0 by rw [← e5]; exact n0)]
    rfl
  unfold rdA
  by_cases c0 : fX0_digitsOf (g p) = 0
  · rw [if_pos c0]
    show _ = _
    rw [fX0_readFrom_L20.eq_2, if_neg h30, if_neg hS, es]
    simp only [Option.bind_some, zlet, if_pos c0]
  · rw [if_neg c0]
    have bad : ∀ e, fX0_readFrom_L52 (nI stop) (nI p) (nI i) (fX0_digitsOf (g p)) C 4000 1 = some (.inl (nI e, C)) → fX0_readFrom_L20 (nI stop) (m + 1) (nI p) (nI i) C = some (.inl (nI e, C)) := fun e he => by
      rw [fX0_readFrom_L20.eq_2, if_neg h30, if_neg hS, es]
      simp only [Option.bind_some, zlet, if_neg c0, he, zs]
    have st1 : ∀ x5 : Int32, ¬ x5 < nI 1 → fX0_readFrom_L52 (nI stop) (nI p) (nI i) x5 C 4000 1 = _ := fun x5 h5 => c_dig (x4 := nI i) hg hst hk h hp (show 1 < 9 by omega) h5 3999
    have n1 : ¬ fX0_digitsOf (g p) < nI 1 := by
      rcases dgOf_cases (g p) with q | ⟨q, -⟩ | ⟨q, -⟩
      · exact absurd q c0
      · rw [q]; decide
      · rw [q]; decide
    by_cases c1 : dgt g (p + 1) = false
    · rw [if_pos c1]
      exact bad _ (by rw [st1 _ n1, if_pos c1])
    · rw [if_neg c1]
      have c1' : dgt g (p + 1) = true := by simpa using c1
      have hp1 : p + 1 < stop := (dgt_eq hg c1').1
      have e3 : ∀ a : actT, (putA C i a).1 22 3 + 1 = nI (i + 1) := fun a => by
        have : (putA C i a).1 22 = C.1 22 := by unfold putA; rw [zSI_other _ _ _ (by decide), zSI_other _ _ _ (by decide), zSI_other _ _ _ (by decide)]
        rw [this, h3, nI_1]
      rcases dgOf_cases (g p) with q | ⟨q, kk⟩ | ⟨q, kk⟩
      · exact absurd q c0
      · rw [if_pos q]
        have e52 : fX0_readFrom_L52 (nI stop) (nI p) (nI i) 1 C 4000 1 = some (.inr ()) := by
          rw [st1 1 (by decide), if_neg c1, fX0_readFrom_L52.eq_2, if_pos (show (1 : Int32) < nI (1 + 1) by decide)]
        have t := tail 1 0 e52 c0 q hp1
        rw [if_pos (show (1 : Int32) ≤ 1 by decide), Option.bind_some] at t
        have ep : nI p + (1 + 1 : Int32) = nI (p + 2) := nI_add p 2
        rw [ep] at t
        by_cases q9 : g p = 99
        · rw [if_pos q9]
          rw [if_pos q9] at t
          have hA : CTx g stop k (putA C i (g p, g (p + 1) - 48, 0)) := (putA_A C i _).tx h
          have ok := rOn_ok hg 9 (p + 2) 0 0 (by omega) (by omega) (by omega) (by omega)
          rw [c_marks hg hst hk hA (show p + 2 ≤ stop by omega)] at t
          simp only [Option.bind_some, zp] at t
          rw [bc_nI _ ok.2.2.1, nI_add, show p + 2 + pcN (rOn g 9 (p + 2) 0 0).2 = (rOn g 9 (p + 2) 0 0).1 by have := ok.2.2.2.1; rw [show pcN 0 = 0 by decide] at this; omega] at t
          have tw : zSI (putA C i (g p, g (p + 1) - 48, 0)) 25 i (nI (rOn g 9 (p + 2) 0 0).2) = putA C i (g p, g (p + 1) - 48, nI (rOn g 9 (p + 2) 0 0).2) := zSI_tw _ _ _ _ _
          rw [tw, e3] at t
          exact t
        · rw [if_neg q9]
          rw [if_neg q9, Option.bind_some, zp_mk, e3] at t
          exact t
      · rw [if_neg (show ¬ fX0_digitsOf (g p) = 1 by rw [q]; decide)]
        have q9 : ¬ g p = 99 := fun z => by rw [z] at q; exact absurd q (by decide)
        have st2 := c_dig (x4 := nI i) (x5 := 2) hg hst hk h hp (show 2 < 9 by omega) (show ¬ (2 : Int32) < nI 2 by decide) 3998
        by_cases c2 : dgt g (p + 2) = false
        · rw [if_pos c2]
          refine bad _ ?_
          rw [q, st1 2 (by decide), if_neg c1]
          rw [if_pos c2] at st2
          exact st2
        · rw [if_neg c2]
          have c2' : dgt g (p + 2) = true := by simpa using c2
          have hp2 : p + 2 < stop := (dgt_eq hg c2').1
          have e52 : fX0_readFrom_L52 (nI stop) (nI p) (nI i) 2 C 4000 1 = some (.inr ()) := by
            rw [st1 2 (by decide), if_neg c1]
            rw [if_neg c2] at st2
            refine st2.trans ?_
            rw [fX0_readFrom_L52.eq_2, if_pos (show (2 : Int32) < nI (2 + 1) by decide)]
          have t := tail 2 0 e52 c0 q hp1
          have h2 : CTx g stop k (zSI (zSI C 23 i (g p)) 24 i (g (p + 1) - 48)) := ⟨by rw [zSI_other _ _ _ (by decide), zSI_other _ _ _ (by decide)]; exact h.1, fun j hj => by rw [zSI_other _ _ _ (by decide), zSI_other _ _ _ (by decide)]; exact h.2 j hj⟩
          rw [if_neg (show ¬ (2 : Int32) ≤ 1 by decide), c_sign hg hst hk h2 hp2, Option.bind_some, Option.bind_some, if_neg q9, Option.bind_some, zp_mk, e3] at t
          have ep : nI p + (1 + 2 : Int32) = nI (p + 3) := nI_add p 3
          rw [ep] at t
          exact t
def rlC (i : Nat) (C : zM) (o : Option ((Int32 × zM) ⊕ (Int32 × zM))) : Nat ⊕ (List actT × Nat) → Prop
  | .inl e => ∃ T, o = some (.inl (nI e, T)) ∧ CgA i C T
  | .inr (l, q) => ∃ T, o = some (.inr (nI q, T)) ∧ CgA i C T ∧ T.1 22 3 = nI (i + l.length) ∧ ∀ j a, l[j]? = some a → T.1 23 (i + j) = a.1 ∧ T.1 24 (i + j) = a.2.1 ∧ T.1 25 (i + j) = a.2.2
theorem c_acts (hg : GT g stop) (hst : stop ≤ k) (hk : k ≤ 80) (h60 : stop ≤ 60) : ∀ fl i p m C, p ≤ stop → stop < p + 2 * fl → 2 * i ≤ p → fl < m → CTx g stop k C → C.1 22 3 = nI i → rlC i C (fX0_readFrom_L20 (nI stop) m (nI p) (nI i) C) (pAc g stop fl p) := by
  intro fl
  induction fl with
  | zero =>
    intro i p m C hp hf
    exact absurd hf (by omega)
  | succ fl ih =>
    intro i p m C hp hf hi hm h h3
    obtain ⟨m, rfl⟩ : ∃ q, m = q + 1 := ⟨m - 1, by omega⟩
    unfold pAc
    by_cases c : stop ≤ p
    · rw [if_pos c]
      refine ⟨C, ?_, CgA.refl i C, h3, fun j a hj => by cases hj⟩
      rw [fX0_readFrom_L20.eq_2, if_pos (leT c (by omega)), ite_self]
    · rw [if_neg c]
      have hps : p < stop := by omega
      have hr := c_act hg hst hk h hps (show i < 30 by omega) h3 m
      have ok := rdA_ok hg hps
      generalize rdA g p = o at hr ok ⊢
      match o, hr, ok with
      | .inl e, hr, ok => exact ⟨C, hr, CgA.refl i C⟩
      | .inr (q, a), hr, ok =>
        have hr' : fX0_readFrom_L20 (nI stop) (m + 1) (nI p) (nI i) C = fX0_readFrom_L20 (nI stop) m (nI q) (nI (i + 1)) (zSI (putA C i a) 22 3 (nI (i + 1))) := hr
        rw [hr']
        generalize hT : zSI (putA C i a) 22 3 (nI (i + 1)) = T
        have pa := putA_A C i a
        have pv := putA_v C i a
        have cT : CgA i C T := by
          subst hT
          exact ⟨pa.1, fun q a b c d => by rw [zSI_other _ _ _ a]; exact pa.2.1 q a b c d, fun j hj => by rw [gSI, if_neg (by omega)]; exact pa.2.2.1 j hj, fun j hj => by rw [zSI_other _ _ _ (by decide), zSI_other _ _ _ (by decide), zSI_other _ _ _ (by decide)]; exact pa.2.2.2 j hj⟩
        have vT : T.1 23 i = a.1 ∧ T.1 24 i = a.2.1 ∧ T.1 25 i = a.2.2 := by
          subst hT
          rw [zSI_other _ _ _ (by decide), zSI_other _ _ _ (by decide), zSI_other _ _ _ (by decide)]; exact pv
        have i1 := ih (i + 1) q m T ok.2.1 (by have := ok.1; omega) (by have := ok.1; omega) (by omega) (cT.tx h) (by subst hT; rw [gSI, if_pos ⟨rfl, rfl⟩])
        dsimp only
        generalize pAc g stop fl q = o2 at i1 ⊢
        match o2, i1 with
        | .inl e, ⟨T2, j1, j2⟩ => exact ⟨T2, j1, cT.trans j2 (by omega)⟩
        | .inr (l, e), ⟨T2, j1, j2, j3, j4⟩ =>
          refine ⟨T2, j1, cT.trans j2 (by omega), ?_, fun j b hj => ?_⟩
          · rw [j3, List.length_cons, show i + 1 + l.length = i + (l.length + 1) by omega]
          · cases j with
            | zero =>
              cases hj
              rw [Nat.add_zero, (j2.2.2.2 i (by omega)).1, (j2.2.2.2 i (by omega)).2.1, (j2.2.2.2 i (by omega)).2.2]
              exact vT
            | succ j =>
              have := j4 j b hj
              rw [show i + (j + 1) = i + 1 + j by omega]; exact this
end CYR
/-- the class reads all of it -/
theorem c_readFrom {M : zM} {k : Nat} (hk : k ≤ 80) (h1 : M.1 1 1 = nI k) (hb : ∀ j, j < k → ∃ b : Nat, b < 256 ∧ M.1 2 j = nI b) : ∃ r T, fX0_readFrom M = some (r, T) ∧ CgA 0 M T ∧ match pAc (gT M (min k 60)) (min k 60) 31 0 with
    | .inl e => r = nI e
    | .inr (l, q) => if q = k then r = -1 ∧ T.1 22 3 = nI l.length ∧ ∀ j a, l[j]? = some a → T.1 23 j = a.1 ∧ T.1 24 j = a.2.1 ∧ T.1 25 j = a.2.2 else r = nI q := by
  have hg := GT_of (most := 60) hb
  have c0 : CgA 0 M (zSI M 22 3 0) := ⟨rfl, fun q a _ _ _ => zSI_other _ _ _ a, fun j hj => by rw [gSI, if_neg (by omega)], fun j hj => absurd hj (by omega)⟩
  have hx : CTx (gT M (min k 60)) (min k 60) k (zSI M 22 3 0) := c0.tx ⟨h1, fun j hj => by rw [gT_in hj]⟩
  have hc := c_acts hg (by omega) hk (by omega) 31 0 0 4000 (zSI M 22 3 0) (Nat.zero_le _) (by omega) (by omega) (by omega) hx (by rw [gSI, if_pos ⟨rfl, rfl⟩]; rfl)
  have ok := pAc_ok hg 31 0 (Nat.zero_le _) (by omega)
  have eS : zmin (M.1 1 1) 60 = nI (min k 60) := by rw [h1, show (60 : Int32) = nI 60 from rfl, zmin_nI (by omega) (by omega)]
  have hd : ∀ o, fX0_readFrom_L20 (nI (min k 60)) 4000 (nI 0) (nI 0) (zSI M 22 3 0) = some o → fX0_readFrom M = zs o (fun r => some r) (fun q => zp q fun x3 M => if M.1 1 1 ≤ x3 then some (-1, M) else some (x3, M)) := fun o e => by
    unfold fX0_readFrom
    simp only [zlet, eS]
    rw [show fX0_readFrom_L20 (nI (min k 60)) 4000 0 0 (zSI M 22 3 0) = some o from e]
    rfl
  generalize pAc (gT M (min k 60)) (min k 60) 31 0 = o at hc ok ⊢
  match o, hc, ok with
  | .inl e, ⟨T, i1, i2⟩, ok => exact ⟨nI e, T, by rw [hd _ i1]; rfl, c0.trans i2 (by omega), rfl⟩
  | .inr (l, q), ⟨T, i1, i2, i3, i4⟩, ok =>
    have t1 : T.1 1 1 = nI k := by rw [(c0.trans i2 (by omega)).2.1 1 (by omega) (by omega) (by omega) (by omega)]; exact h1
    dsimp only
    have hq : q ≤ 60 := by have := ok.1; omega
    by_cases c : q = k
    · refine ⟨-1, T, ?_, c0.trans i2 (by omega), ?_⟩
      rotate_left
      · rw [if_pos c]
        exact ⟨rfl, by rw [i3, Nat.zero_add], fun j a hj => by have := i4 j a hj; rw [Nat.zero_add] at this; exact this⟩
      rw [hd _ i1]
      show (if T.1 1 1 ≤ nI q then some (-1, T) else some (nI q, T)) = _
      rw [t1, if_pos (leT (by omega) (by omega))]
    · refine ⟨nI q, T, ?_, c0.trans i2 (by omega), by rw [if_neg c]⟩
      rw [hd _ i1]
      show (if T.1 1 1 ≤ nI q then some (-1, T) else some (nI q, T)) = _
      rw [t1, if_neg (leF (by have := ok.1; omega) (by omega))]
