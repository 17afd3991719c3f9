/-! PURE: loops, numbers, memory -/
theorem zfor {α β : Type} (L : Nat → α → Option β) (S : Nat → α) (N : Nat) (r : Option β) (hs : ∀ n i, i < N → L (n + 1) (S i) = L n (S (i + 1))) (he : ∀ n, L (n + 1) (S N) = r) : ∀ k i n, i + k = N → k < n → L n (S i) = r := by
  intro k
  induction k with
  | zero =>
    intro i n hi hn
    obtain ⟨n, rfl⟩ : ∃ m, n = m + 1 := ⟨n - 1, by omega⟩
    have : i = N := by omega
    subst this
    exact he n
  | succ k ih =>
    intro i n hi hn
    obtain ⟨n, rfl⟩ : ∃ m, n = m + 1 := ⟨n - 1, by omega⟩
    rw [hs n i (by omega)]
    exact ih (i + 1) n (by omega) (by omega)
/-- a loop that may end early: at place i it goes on, or gives e -/
theorem zforE {α β : Type} (L : Nat → α → Option β) (S : Nat → α) (N : Nat) (r : Option β) (j : Nat) (hj : j ≤ N) (hs : ∀ n i, i < j → L (n + 1) (S i) = L n (S (i + 1))) (he : ∀ n, L (n + 1) (S j) = r) (n : Nat) (hn : N < n) : L n (S 0) = r :=
  zfor L S j r hs he j 0 n (by omega) (by omega)
theorem lit_nI (n : Nat) : (OfNat.ofNat n : Int32) = nI n := rfl
theorem le_nI {a b : Nat} (ha : a < 2 ^ 31) (hb : b < 2 ^ 31) : nI a ≤ nI b ↔ a ≤ b := nI_leI ha hb
theorem lle_nI {a b : Nat} (ha : a < 2 ^ 31) (hb : b < 2 ^ 31) : (OfNat.ofNat a : Int32) ≤ nI b ↔ a ≤ b := nI_leI ha hb
theorem nI_lle {a b : Nat} (ha : a < 2 ^ 31) (hb : b < 2 ^ 31) : nI a ≤ (OfNat.ofNat b : Int32) ↔ a ≤ b := nI_leI ha hb
theorem llt_nI {a b : Nat} (ha : a < 2 ^ 31) (hb : b < 2 ^ 31) : (OfNat.ofNat a : Int32) < nI b ↔ a < b := nI_ltI ha hb
theorem nI_llt {a b : Nat} (ha : a < 2 ^ 31) (hb : b < 2 ^ 31) : nI a < (OfNat.ofNat b : Int32) ↔ a < b := nI_ltI ha hb
theorem zin_nI {i N : Nat} (hi : i < 2 ^ 31) : zin (nI i) N ↔ i < N := by
  unfold zin
  rw [nI_toInt hi]
  omega
theorem ladd_nI (a b : Nat) : (OfNat.ofNat a : Int32) + nI b = nI (a + b) := nI_add a b
theorem nI_ladd (a b : Nat) : nI a + (OfNat.ofNat b : Int32) = nI (a + b) := nI_add a b
theorem gSI (M : zM) (k j a b : Nat) (x : Int32) : (zSI M k j x).1 a b = if a = k ∧ b = j then x else M.1 a b := rfl
theorem gSI2 (M : zM) (k j : Nat) (x : Int32) : (zSI M k j x).2 = M.2 := rfl
theorem gSJ (M : zM) (k j a b : Nat) (x : Int64) : (zSJ M k j x).2.1 a b = if a = k ∧ b = j then x else M.2.1 a b := rfl
theorem gSJ1 (M : zM) (k j : Nat) (x : Int64) : (zSJ M k j x).1 = M.1 := rfl
theorem gSJ2 (M : zM) (k j : Nat) (x : Int64) : (zSJ M k j x).2.2 = M.2.2 := rfl
theorem gSD (M : zM) (j b : Nat) (x : Option Nat) : (zSD M j x).2.2 b = if b = j then x else M.2.2 b := rfl
theorem gSD1 (M : zM) (j : Nat) (x : Option Nat) : (zSD M j x).1 = M.1 := rfl
theorem gSD2 (M : zM) (j : Nat) (x : Option Nat) : (zSD M j x).2.1 = M.2.1 := rfl
/-- the bits t < n of which p holds -/
def bsA (p : Nat → Bool) : Nat → Int32
  | 0 => 0
  | t + 1 => if p t = true then bsA p t ||| zshl 1 (nI t) else bsA p t
theorem bsA_congr {p q : Nat → Bool} : ∀ {n : Nat}, (∀ t, t < n → p t = q t) → bsA p n = bsA q n
  | 0, _ => rfl
  | n + 1, h => by
    show (if p n = true then _ else _) = (if q n = true then _ else _)
    rw [bsA_congr (fun t ht => h t (by omega)), h n (by omega)]
theorem bsA_more {p : Nat → Bool} {n : Nat} : ∀ {k : Nat}, (∀ t, n ≤ t → t < n + k → p t = false) → bsA p (n + k) = bsA p n
  | 0, _ => rfl
  | k + 1, h => by
    show (if p (n + k) = true then _ else _) = _
    rw [h (n + k) (by omega) (by omega), if_neg (by decide)]
    exact bsA_more (fun t h1 h2 => h t h1 (by omega))
theorem ior_0 (x : Int32) : x ||| 0 = x := by
  apply Int32.toBitVec_inj.mp
  simp
/-- a loop by an invariant -/
theorem zforI {α β : Type} (L : Nat → α → Option β) (I : Nat → α → Prop) (N : Nat) (Q : Option β → Prop) (hs : ∀ n i s, i < N → I i s → ∃ s', I (i + 1) s' ∧ L (n + 1) s = L n s') (he : ∀ n s, I N s → Q (L (n + 1) s)) : ∀ k i n s, i + k = N → k < n → I i s → Q (L n s) := by
  intro k
  induction k with
  | zero =>
    intro i n s hi hn h
    obtain ⟨n, rfl⟩ : ∃ m, n = m + 1 := ⟨n - 1, by omega⟩
    have : i = N := by omega
    subst this
    exact he n s h
  | succ k ih =>
    intro i n s hi hn h
    obtain ⟨n, rfl⟩ : ∃ m, n = m + 1 := ⟨n - 1, by omega⟩
    obtain ⟨s', h1, h2⟩ := hs n i s (by omega) h
    rw [h2]
    exact ih (i + 1) n s' (by omega) (by omega) h1
theorem zinT {i N : Nat} (h : i < N) (hi : i < 2 ^ 31) : zin (nI i) N := (zin_nI hi).mpr h
theorem leT {a b : Nat} (h : a ≤ b) (hb : b < 2 ^ 31) : nI a ≤ nI b := (le_nI (by omega) hb).mpr h
theorem leF {a b : Nat} (h : b < a) (ha : a < 2 ^ 31) : ¬ nI a ≤ nI b := fun z => by
  have := (le_nI ha (by omega)).mp z
  omega
theorem ltT {a b : Nat} (h : a < b) (hb : b < 2 ^ 31) : nI a < nI b := (nI_ltI (by omega) hb).mpr h
theorem ltF {a b : Nat} (h : b ≤ a) (ha : a < 2 ^ 31) : ¬ nI a < nI b := fun z => by
  have := (nI_ltI ha (by omega)).mp z
  omega
/-! what a Whereabouts tells -/
theorem pX10_heldBy {w : Nat} {who : Int32} {M : zM} (hw : zSH w = .inl 10) : fX10_heldBy w who M = some (bsA (fun t => decide (M.1 (w + 1) t = who)) 8) := by
  unfold fX10_heldBy
  rw [show fX10_heldBy_L4 w who M 4000 0 0 = some (bsA (fun t => decide (M.1 (w + 1) t = who)) 8) from zfor (fun n (s : Int32 × Int32) => fX10_heldBy_L4 w who M n s.1 s.2) (fun i => (bsA (fun t => decide (M.1 (w + 1) t = who)) i, nI i)) 8 _
    (fun n i hi => by
      have h1 : i < 2 ^ 31 := by omega
      simp only [fX10_heldBy_L4, if_neg (show ¬ 8 ≤ nI i from leF (a := 8) hi (by omega)), hw, if_true, if_pos (zinT hi h1), nI_clamp h1, nI_1, zlet, bsA, decide_eq_true_eq])
    (fun n => by simp only [fX10_heldBy_L4, if_pos (show 8 ≤ nI 8 from leT (a := 8) (Nat.le_refl 8) (by omega))])
    8 0 4000 rfl (by omega)]
  rfl
theorem pX10_lost {w : Nat} {M : zM} (hw : zSH w = .inl 10) : fX10_lost w M = some (bsA (fun t => !decide (M.1 (w + 2) t < 0)) 8) := by
  unfold fX10_lost
  rw [show fX10_lost_L4 w M 4000 0 0 = some (bsA (fun t => !decide (M.1 (w + 2) t < 0)) 8) from zfor (fun n (s : Int32 × Int32) => fX10_lost_L4 w M n s.1 s.2) (fun i => (bsA (fun t => !decide (M.1 (w + 2) t < 0)) i, nI i)) 8 _
    (fun n i hi => by
      have h1 : i < 2 ^ 31 := by omega
      simp only [fX10_lost_L4, if_neg (show ¬ 8 ≤ nI i from leF (a := 8) hi (by omega)), hw, if_true, if_pos (zinT hi h1), nI_clamp h1, nI_1, zlet, bsA]
      by_cases hc : M.1 (w + 2) i < 0 <;> simp [hc])
    (fun n => by simp only [fX10_lost_L4, if_pos (show 8 ≤ nI 8 from leT (a := 8) (Nat.le_refl 8) (by omega))])
    8 0 4000 rfl (by omega)]
  rfl
theorem pX10_isIn {w t : Nat} {M : zM} (hw : zSH w = .inl 10) (ht : t < 8) : fX10_isIn w (nI t) M = some (if M.1 (w + 3) t < 0 then 0 else 1) := by
  have h1 : t < 2 ^ 31 := by omega
  simp only [fX10_isIn, hw, if_true, if_pos (zinT ht h1), nI_clamp h1]
  split <;> rfl
theorem pX10_inside {w : Nat} {M : zM} (hw : zSH w = .inl 10) : fX10_inside w M = some (bsA (fun t => !decide (M.1 (w + 3) t < 0)) 8) := by
  unfold fX10_inside
  rw [show fX10_inside_L4 w M 4000 0 0 = some (bsA (fun t => !decide (M.1 (w + 3) t < 0)) 8) from zfor (fun n (s : Int32 × Int32) => fX10_inside_L4 w M n s.1 s.2) (fun i => (bsA (fun t => !decide (M.1 (w + 3) t < 0)) i, nI i)) 8 _
    (fun n i hi => by
      have h1 : i < 2 ^ 31 := by omega
      simp only [fX10_inside_L4, if_neg (show ¬ 8 ≤ nI i from leF (a := 8) hi (by omega)), hw, if_true, pX10_isIn hw hi, nI_1, zlet, bsA, Option.bind_some]
      by_cases hc : M.1 (w + 3) i < 0 <;> simp [hc])
    (fun n => by simp only [fX10_inside_L4, if_pos (show 8 ≤ nI 8 from leT (a := 8) (Nat.le_refl 8) (by omega))])
    8 0 4000 rfl (by omega)]
  rfl
/-! what the stock tells -/
theorem pX7_doableWith {x : Int32} {M : zM} {nd : Nat} (hd : M.1 5 4 = nI nd) (hn : nd ≤ 6) : fX7_doableWith x M = some (bsA (fun t => decide (M.1 8 t &&& (x ^^^ (-1)) = 0)) nd) := by
  unfold fX7_doableWith
  rw [show fX7_doableWith_L4 x M 4000 0 0 = some (bsA (fun t => decide (M.1 8 t &&& (x ^^^ (-1)) = 0)) nd) from zfor (fun n (s : Int32 × Int32) => fX7_doableWith_L4 x M n s.1 s.2) (fun i => (bsA (fun t => decide (M.1 8 t &&& (x ^^^ (-1)) = 0)) i, nI i)) nd _
    (fun n i hi => by
      have h1 : i < 2 ^ 31 := by omega
      simp only [fX7_doableWith_L4, hd, if_neg (leF hi (by omega)), if_pos (zinT (show i < 6 by omega) h1), nI_clamp h1, nI_1, zlet, bsA, decide_eq_true_eq])
    (fun n => by simp only [fX7_doableWith_L4, hd, if_pos (leT (Nat.le_refl nd) (by omega))])
    nd 0 4000 (by omega) (by omega)]
  rfl
theorem pX12_canWith {x : Int32} {M : zM} {nd : Nat} (hd : M.1 36 2 = nI nd) (hn : nd ≤ 6) : fX12_canWith x M = some (bsA (fun t => decide (M.1 40 t &&& (x ^^^ (-1)) = 0)) nd) := by
  unfold fX12_canWith
  rw [show fX12_canWith_L4 x M 4000 0 0 = some (bsA (fun t => decide (M.1 40 t &&& (x ^^^ (-1)) = 0)) nd) from zfor (fun n (s : Int32 × Int32) => fX12_canWith_L4 x M n s.1 s.2) (fun i => (bsA (fun t => decide (M.1 40 t &&& (x ^^^ (-1)) = 0)) i, nI i)) nd _
    (fun n i hi => by
      have h1 : i < 2 ^ 31 := by omega
      simp only [fX12_canWith_L4, hd, if_neg (leF hi (by omega)), if_pos (zinT (show i < 6 by omega) h1), nI_clamp h1, nI_1, zlet, bsA, decide_eq_true_eq]
      split <;> simp only [ior_0])
    (fun n => by simp only [fX12_canWith_L4, hd, if_pos (leT (Nat.le_refl nd) (by omega))])
    nd 0 4000 (by omega) (by omega)]
  rfl
theorem pX12_hadBy {a : Nat} {who : Int32} {M : zM} {n : Nat} (hn : M.1 36 1 = nI n) (h8 : n ≤ 8) (ha : zSH a = .inr (0, 26)) : fX12_hadBy a who M = some (bsA (fun t => decide (M.1 a t = 0 ∧ M.1 a (8 + t) = who)) n) := by
  have hl : zLen a = 26 := by unfold zLen; rw [ha]
  unfold fX12_hadBy
  rw [show fX12_hadBy_L5 a who M 4000 0 0 = some (bsA (fun t => decide (M.1 a t = 0 ∧ M.1 a (8 + t) = who)) n) from zfor (fun k (s : Int32 × Int32) => fX12_hadBy_L5 a who M k s.1 s.2) (fun i => (bsA (fun t => decide (M.1 a t = 0 ∧ M.1 a (8 + t) = who)) i, nI i)) n _
    (fun k i hi => by
      have h1 : i < 2 ^ 31 := by omega
      simp only [fX12_hadBy_L5, hn, if_neg (leF hi (by omega)), hl, ha, if_true, if_pos (zinT (show i < 26 by omega) h1), nI_clamp h1, show (8 : Int32) + nI i = nI (8 + i) from nI_add 8 i, if_pos (zinT (show 8 + i < 26 by omega) (by omega)), nI_clamp (show 8 + i < 2 ^ 31 by omega), nI_1, zlet, bsA, decide_eq_true_eq]
      by_cases c1 : M.1 a i = 0 <;> by_cases c2 : M.1 a (8 + i) = who <;> simp [c1, c2, ior_0])
    (fun k => by simp only [fX12_hadBy_L5, hn, if_pos (leT (Nat.le_refl n) (by omega))])
    n 0 4000 (by omega) (by omega)]
  rfl
