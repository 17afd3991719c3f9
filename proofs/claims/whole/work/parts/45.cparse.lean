/-! the component reads a rule -/
theorem zmin_nI {a b : Nat} (ha : a < 2 ^ 31) (hb : b < 2 ^ 31) : zmin (nI a) (nI b) = nI (min a b) := by
  unfold zmin
  by_cases h : b < a
  · rw [if_pos (ltT h ha)]; congr 1; omega
  · rw [if_neg (ltF (by omega) hb)]; congr 1; omega
def bI (b : Bool) : Int32 := if b = true then 1 else 0
theorem bI_0 (b : Bool) : bI b = 0 ↔ b = false := by cases b <;> decide
def FrP (M N : zM) : Prop := (∀ k, k ≠ 17 → k ≠ 18 → k ≠ 21 → N.1 k = M.1 k) ∧ N.2 = M.2
theorem FrP.refl (M : zM) : FrP M M := ⟨fun _ _ _ _ => rfl, rfl⟩
theorem FrP.trans {A B C : zM} (h : FrP A B) (k : FrP B C) : FrP A C := ⟨fun j a b c => (k.1 j a b c).trans (h.1 j a b c), k.2.trans h.2⟩
def CSt (g : Nat → Int32) (S L : Nat) (M : zM) (p : Nat) (l : List Int32) : Prop := (M.1 21 2 = nI S ∧ M.1 21 3 = nI p ∧ M.1 1 1 = nI L ∧ ∀ j, j < S → M.1 2 j = g j) ∧ (M.1 17 3 = nI l.length ∧ ∀ j x, l[j]? = some x → M.1 18 j = x) ∧ l.length ≤ p ∧ p ≤ S ∧ S ≤ L ∧ L ≤ 80
def CPost (g : Nat → Int32) (S L : Nat) (M : zM) (l : List Int32) (r : pR) (q : Int32 × zM) : Prop := q.1 = bI r.1 ∧ FrP M q.2 ∧ CSt g S L q.2 r.2.1 (l ++ r.2.2.1)
section CP
variable {g : Nat → Int32} {S L : Nat}
theorem c_seen {M : zM} {p : Nat} {l : List Int32} (hg : GS g S) (h : CSt g S L M p l) : fX5_seen M = some (g p) := by
  obtain ⟨⟨a1, a2, a3, a4⟩, -, b1, b2, b3, b4⟩ := h
  have h40 := hg.1
  unfold fX5_seen
  rw [a1, a2]
  by_cases c : p < S
  · rw [if_neg (leF c (by omega))]
    unfold fX9_signAt
    rw [if_neg (nI_nneg (by omega)), a3, if_neg (leF (show p < L by omega) (by omega)), if_pos (zinT (show p < 80 by omega) (by omega)), nI_clamp (by omega), a4 p c]
    rfl
  · rw [if_pos (leT (show S ≤ p by omega) (by omega)), hg.2.1 p (by omega)]
theorem c_adv {α : Type} {M : zM} {p : Nat} {l : List Int32} {f : zM → Option α} {K : α → Prop} (h : CSt g S L M p l) (hp : p < S) (k : ∀ N, FrP M N → CSt g S L N (p + 1) l → wpO (f N) K) : wpO (zlet (zSI M 21 3 (M.1 21 3 + 1)) f) K := by
  obtain ⟨⟨a1, a2, a3, a4⟩, ⟨c1, c2⟩, b1, b2, b3, b4⟩ := h
  refine k _ ⟨fun j _ _ h3 => zSI_other M 3 _ h3, rfl⟩ ⟨⟨?_, ?_, ?_, ?_⟩, ⟨?_, ?_⟩, by omega, hp, b3, b4⟩
  · rw [gSI]; simp [a1]
  · rw [gSI, a2, nI_1]; simp
  · rw [gSI]; simp [a3]
  · intro j hj; rw [gSI]; simp [a4 j hj]
  · rw [gSI]; simp [c1]
  · intro j x hj; rw [gSI]; simp [c2 j x hj]
theorem snoc32 {l : List Int32} {v w : Int32} {j : Nat} (h : (l ++ [v])[j]? = some w) : (j < l.length ∧ l[j]? = some w) ∨ (j = l.length ∧ w = v) := by
  rcases Nat.lt_or_ge j l.length with q | q
  · rw [List.getElem?_append_left q] at h
    exact Or.inl ⟨q, h⟩
  · rw [List.getElem?_append_right q] at h
    have : j - l.length < 1 := (List.getElem?_eq_some_iff.mp h).1
    have e : j = l.length := by omega
    subst e
    rw [Nat.sub_self] at h
    cases h
    exact Or.inr ⟨rfl, rfl⟩
theorem c_add {α : Type} {M : zM} {p : Nat} {l : List Int32} {x : Int32} {f : zM → Option α} {K : α → Prop} (hg : GS g S) (h : CSt g S L M p l) (hl : l.length < p) (k : ∀ N, FrP M N → CSt g S L N p (l ++ [x]) → wpO (f N) K) : wpO ((fX4_add 17 x M).bind f) K := by
  obtain ⟨⟨a1, a2, a3, a4⟩, ⟨c1, c2⟩, b1, b2, b3, b4⟩ := h
  have h40 := hg.1
  have e : fX4_add 17 x M = some (zSI (zSI M 18 l.length x) 17 3 (nI (l.length + 1))) := by
    unfold fX4_add
    rw [if_pos (show zSH 17 = .inl 4 from rfl), c1, if_neg (show ¬ 40 ≤ nI l.length from leF (a := 40) (by omega) (by omega)), if_pos (zinT (show l.length < 40 by omega) (by omega)), nI_clamp (by omega)]
    show some (zSI (zSI M 18 l.length x) 17 3 ((zSI M 18 l.length x).1 17 3 + 1)) = _
    rw [gSI, if_neg (by omega), c1, nI_1]
  refine wpO_ek e (k _ ⟨fun j h1 h2 _ => ?_, rfl⟩ ⟨⟨?_, ?_, ?_, ?_⟩, ⟨?_, ?_⟩, by rw [List.length_append]; exact hl, b2, b3, b4⟩)
  · rw [zSI_other _ _ _ h1, zSI_other _ _ _ h2]
  · rw [gSI, gSI]; simp [a1]
  · rw [gSI, gSI]; simp [a2]
  · rw [gSI, gSI]; simp [a3]
  · intro j hj; rw [gSI, gSI]; simp [a4 j hj]
  · rw [gSI, if_pos ⟨rfl, rfl⟩, List.length_append]; rfl
  · intro j y hj
    rw [gSI, if_neg (by omega), gSI]
    rcases snoc32 hj with ⟨q1, q2⟩ | ⟨rfl, rfl⟩
    · rw [if_neg (by omega)]; exact c2 j y q2
    · rw [if_pos ⟨rfl, rfl⟩]
theorem c_minus {M0 : zM} {rec : Nat → Int32 → zM → Option (Int32 × zM)} {d : Int32} {l : List Int32} (hg : GS g S) : ∀ k i n t M p, i + k = 40 → k < n → CSt g S L M p l → FrP M0 M → wpO (fX5_readSigned_L4 rec d n (bI t) (nI i) M) (fun q => q.1 = bI (t ^^ (pMin g k p).2) ∧ FrP M0 q.2 ∧ CSt g S L q.2 (pMin g k p).1 l) := by
  intro k
  induction k with
  | zero =>
    intro i n t M p hi hn h f
    obtain ⟨n, rfl⟩ : ∃ m, n = m + 1 := ⟨n - 1, by omega⟩
    have : i = 40 := by omega
    subst this
    rw [fX5_readSigned_L4.eq_2]
    refine wpO_tk (show 40 ≤ nI 40 from leT (a := 40) (Nat.le_refl 40) (by omega)) (wpO_ret ⟨?_, f, h⟩)
    show bI t = bI (t ^^ false)
    simp
  | succ k ih =>
    intro i n t M p hi hn h f
    obtain ⟨n, rfl⟩ : ∃ m, n = m + 1 := ⟨n - 1, by omega⟩
    rw [fX5_readSigned_L4.eq_2]
    refine wpO_fk (show ¬ 40 ≤ nI i from leF (a := 40) (by omega) (by omega)) (wpO_ek (c_seen hg h) ?_)
    unfold pMin
    by_cases c : g p = 45
    · refine wpO_tk c (wpO_lk (c_adv h (hg.lt (fun z => by rw [z] at c; exact absurd c (by decide))) (fun N fN hN => ?_)))
      rw [if_pos c, show (if bI t = 0 then (1 : Int32) else 0) = bI (!t) by cases t <;> rfl, nI_1]
      refine wpO_mono (ih (i + 1) n (!t) N (p + 1) (by omega) (by omega) hN (f.trans fN)) (fun q h => ?_)
      rw [show (t ^^ !(pMin g k (p + 1)).2) = (!t ^^ (pMin g k (p + 1)).2) by cases t <;> cases (pMin g k (p + 1)).2 <;> rfl]
      exact h
    · refine wpO_fk c (wpO_ret ?_)
      rw [if_neg c]
      exact ⟨by show bI t = bI (t ^^ false); simp, f, h⟩
/-- a number -/
theorem c_num {M : zM} {p : Nat} {l : List Int32} (hg : GS g S) (h : CSt g S L M p l) : wpO (fX5_readNumber M) (fun q => if isDg (g p) = true then q.1 = 1 ∧ FrP M q.2 ∧ CSt g S L q.2 (pNum g p).1 (l ++ [(pNum g p).2]) else q.1 = 0 ∧ FrP M q.2 ∧ CSt g S L q.2 p l) := by
  have nd : ∀ x, isDg x = false → ∀ {α : Type} {a b : Option α} {K : α → Prop}, wpO a K → wpO (if x < 48 then a else if 57 < x then a else b) K := by
    intro x hx α a b K ha
    by_cases c : x < 48
    · exact wpO_tk c ha
    · refine wpO_fk c (wpO_tk ?_ ha)
      unfold isDg at hx
      simpa [c] using hx
  have yd : ∀ x, isDg x = true → ¬ x < 48 ∧ ¬ 57 < x := by
    intro x hx
    unfold isDg at hx
    simpa using hx
  -- one turn of the loop
  have step : ∀ n v i M p l (K : Int32 × Int32 × zM → Prop), CSt g S L M p l → i < 3 → (isDg (g p) = false → K (v, nI i, M)) → (isDg (g p) = true → ∀ N, FrP M N → CSt g S L N (p + 1) l → wpO (fX5_readNumber_L4 n (v * 10 + g p - 48) (nI (i + 1)) N) K) → wpO (fX5_readNumber_L4 (n + 1) v (nI i) M) K := by
    intro n v i M p l K h hi k0 k1
    rw [fX5_readNumber_L4.eq_2]
    refine wpO_fk (show ¬ 3 ≤ nI i from leF (a := 3) hi (by omega)) ?_
    rw [c_seen hg h]
    simp only [Option.bind_some]
    cases c : isDg (g p) with
    | false => exact nd _ c (wpO_ret (k0 c))
    | true =>
      refine wpO_fk (yd _ c).1 (wpO_fk (yd _ c).2 (wpO_lk (c_adv h (hg.dg c).1 (fun N fN hN => ?_))))
      rw [nI_1]
      exact k1 c N fN hN
  have fin : ∀ n v M (K : Int32 × Int32 × zM → Prop), K (v, nI 3, M) → wpO (fX5_readNumber_L4 (n + 1) v (nI 3) M) K := by
    intro n v M K k
    rw [fX5_readNumber_L4.eq_2]
    exact wpO_tk (show 3 ≤ nI 3 from leT (a := 3) (Nat.le_refl 3) (by omega)) (wpO_ret k)
  unfold fX5_readNumber
  refine wpO_bk (step 3999 0 0 M p l _ h (by omega) (fun c => ?_) (fun c N fN hN => ?_))
  · refine wpO_pk (wpO_pk (wpO_tk rfl (wpO_ret ?_)))
    rw [if_neg (by rw [c]; decide)]
    exact ⟨rfl, FrP.refl M, h⟩
  · have e0 : (0 : Int32) * 10 + g p - 48 = g p - 48 := by
      rw [show (0 : Int32) * 10 = 0 by decide, show (0 : Int32) + g p = g p from by apply Int32.toBitVec_inj.mp; simp]
    rw [e0]
    have hl := h.2.2.1
    refine step 3998 _ 1 N (p + 1) l _ hN (by omega) (fun c1 => ?_) (fun c1 N1 f1 h1 => step 3997 _ 2 N1 (p + 2) l _ h1 (by omega) (fun c2 => ?_) (fun c2 N2 f2 h2 => fin 3996 _ N2 _ ?_))
    · refine wpO_pk (wpO_pk (wpO_fk (show ¬ nI 1 = 0 by decide) (c_add hg hN (by omega) (fun N9 f9 h9 => wpO_ret ?_))))
      rw [if_pos c]
      unfold pNum
      rw [if_neg (by rw [c1]; decide)]
      exact ⟨rfl, fN.trans f9, h9⟩
    · refine wpO_pk (wpO_pk (wpO_fk (show ¬ nI 2 = 0 by decide) (c_add hg h1 (by omega) (fun N9 f9 h9 => wpO_ret ?_))))
      rw [if_pos c]
      unfold pNum
      rw [if_pos c1, if_neg (by rw [c2]; decide)]
      exact ⟨rfl, (fN.trans f1).trans f9, h9⟩
    · refine wpO_pk (wpO_pk (wpO_fk (show ¬ nI 3 = 0 by decide) (c_add hg h2 (by omega) (fun N9 f9 h9 => wpO_ret ?_))))
      rw [if_pos c]
      unfold pNum
      rw [if_pos c1, if_pos c2]
      exact ⟨rfl, ((fN.trans f1).trans f2).trans f9, h9⟩
/-! names -/
def zM0 : zM := (fun _ _ => 0, fun _ _ => 0, fun _ => none)
theorem ix_any (x3 x4 : Int32) (M : zM) : ∀ n x, fJ1_indexOfChar_4cfef_L7 x3 x4 M n x = fJ1_indexOfChar_4cfef_L7 x3 x4 zM0 n x
  | 0, x => rfl
  | n + 1, x => by rw [fJ1_indexOfChar_4cfef_L7.eq_2, fJ1_indexOfChar_4cfef_L7.eq_2, ix_any x3 x4 M n (x + 1)]
theorem ix_0 : ∀ b, b < 256 → fJ0_indexOf_0f7a4 (((nI b).toUInt32 % 65536).toInt32) zM0 = some (fX12_letterOf (nI b)) := by decide +kernel
theorem ix_eq (M : zM) {b : Nat} (hb : b < 256) : fJ0_indexOf_0f7a4 (((nI b).toUInt32 % 65536).toInt32) M = some (fX12_letterOf (nI b)) := by
  rw [← ix_0 b hb]
  simp only [fJ0_indexOf_0f7a4, fJ0_indexOf_7cf53, fJ1_indexOf_4cfef, fJ1_indexOfChar_4cfef]
  simp only [ix_any _ _ M]
theorem c_addadv {M : zM} {p : Nat} {l : List Int32} {x : Int32} {K : Int32 × zM → Prop} (hg : GS g S) (h : CSt g S L M p l) (hp : p < S) (k : ∀ N, FrP M N → CSt g S L N (p + 1) (l ++ [x]) → K (1, N)) : wpO ((fX4_add 17 x M).bind fun M36 => zlet (zSI M36 21 3 (M36.1 21 3 + 1)) fun M46 => some (1, M46)) K := by
  obtain ⟨⟨a1, a2, a3, a4⟩, ⟨c1, c2⟩, b1, b2, b3, b4⟩ := h
  have h40 := hg.1
  have e : fX4_add 17 x M = some (zSI (zSI M 18 l.length x) 17 3 (nI (l.length + 1))) := by
    unfold fX4_add
    rw [if_pos (show zSH 17 = .inl 4 from rfl), c1, if_neg (show ¬ 40 ≤ nI l.length from leF (a := 40) (by omega) (by omega)), if_pos (zinT (show l.length < 40 by omega) (by omega)), nI_clamp (by omega)]
    show some (zSI (zSI M 18 l.length x) 17 3 ((zSI M 18 l.length x).1 17 3 + 1)) = _
    rw [gSI, if_neg (by omega), c1, nI_1]
  have e2 : (zSI (zSI M 18 l.length x) 17 3 (nI (l.length + 1))).1 21 3 + 1 = nI (p + 1) := by
    rw [gSI, gSI]; simp [a2, nI_1]
  refine wpO_ek e (wpO_lk (wpO_ret (k _ ?_ ?_)))
  · rw [e2]
    exact ⟨fun j h1 h2 h3 => by rw [zSI_other _ _ _ h3, zSI_other _ _ _ h1, zSI_other _ _ _ h2], rfl⟩
  · rw [e2]
    refine ⟨⟨?_, ?_, ?_, ?_⟩, ⟨?_, ?_⟩, by rw [List.length_append]; show l.length + 1 ≤ p + 1; omega, hp, b3, b4⟩
    · rw [gSI, gSI, gSI]; simp [a1]
    · rw [gSI, if_pos ⟨rfl, rfl⟩]
    · rw [gSI, gSI, gSI]; simp [a3]
    · intro j hj; rw [gSI, gSI, gSI]; simp [a4 j hj]
    · rw [gSI, if_neg (by omega), gSI, if_pos ⟨rfl, rfl⟩, List.length_append]; rfl
    · intro j y hj
      rw [gSI, if_neg (by omega), gSI, if_neg (by omega), gSI]
      rcases snoc32 hj with ⟨q1, q2⟩ | ⟨rfl, rfl⟩
      · rw [if_neg (by omega)]; exact c2 j y q2
      · rw [if_pos ⟨rfl, rfl⟩]
theorem c_name {M : zM} {p : Nat} {l : List Int32} (hg : GS g S) (h : CSt g S L M p l) : wpO (fX5_readName M) (fun q => if fX12_letterOf (g p) = -1 then q.1 = 0 ∧ FrP M q.2 ∧ CSt g S L q.2 p l else q.1 = 1 ∧ FrP M q.2 ∧ CSt g S L q.2 (p + 1) (l ++ [1000 + fX12_letterOf (g p)])) := by
  unfold fX5_readName
  refine wpO_ek (c_seen hg h) ?_
  by_cases c : p < S
  · obtain ⟨b, hb, e⟩ := hg.2.2 p c
    rw [e, if_pos (show 0 ≤ nI b from leT (a := 0) (Nat.zero_le b) (by omega)), ix_eq M hb]
    simp only [Option.bind_some]
    rcases letter_cases (nI b) with q | ⟨k, hk, q⟩
    · rw [q, if_neg (by decide)]
      refine wpO_ret ?_
      rw [if_pos rfl]
      exact ⟨rfl, FrP.refl M, h⟩
    · rw [q, if_pos (show 0 ≤ nI k from leT (a := 0) (Nat.zero_le k) (by omega))]
      refine c_addadv hg h c (fun N fN hN => ?_)
      rw [if_neg (fun z : nI k = -1 => nI_ne_m1 (show k < 2 ^ 31 by omega) z.symm)]
      exact ⟨rfl, fN, hN⟩
  · rw [hg.2.1 p (by omega), if_neg (by decide)]
    simp only [Option.bind_some]
    rw [if_neg (by decide)]
    refine wpO_ret ?_
    rw [if_pos (show fX12_letterOf (-1) = -1 by decide)]
    exact ⟨rfl, FrP.refl M, h⟩
/-- what stands behind its signs -/
theorem c_signed {rec : Nat → Int32 → zM → Option (Int32 × zM)} {d : Int32} {br : Nat → pR} {M : zM} {p : Nat} {l : List Int32} (hg : GS g S) (hb : ∀ q, q < S → pOk S q (br q)) (hr : ∀ M p l, CSt g S L M p l → g p = 40 → wpO (rec 4 d M) (CPost g S L M l (br p))) (h : CSt g S L M p l) : wpO (fX5_readSigned rec d M) (CPost g S L M l (pSgn br g p)) := by
  unfold fX5_readSigned
  have hp := h.2.2.2.1
  have hl := h.2.2.1
  have h40 := hg.1
  obtain ⟨m1, m2, m3, m4⟩ := pMin_ok hg 40 p hp (by omega)
  refine wpO_bk (wpO_mono (c_minus (M0 := M) (rec := rec) (d := d) (l := l) hg 40 0 4000 false M p (by omega) (by omega) h (FrP.refl M)) ?_)
  rintro ⟨t, N⟩ ⟨e1, f, hN⟩
  dsimp only at e1 f hN
  rw [show (false ^^ (pMin g 40 p).2) = (pMin g 40 p).2 by cases (pMin g 40 p).2 <;> rfl] at e1
  have hpr := pPrim_ok hg m2 hb
  unfold pSgn pNeg
  generalize pMin g 40 p = q at m1 m2 m3 m4 e1 hN hpr ⊢
  obtain ⟨q1, q2⟩ := q
  dsimp only at m1 m2 m3 m4 e1 hN hpr ⊢
  subst e1
  refine wpO_pk (wpO_ek (c_seen hg hN) ?_)
  -- the part itself
  have key : wpO (if g q1 = 40 then ((rec 4 d N).bind fun (q : Int32 × zM) => zp q fun r8 M56 => some (r8, M56)) else ((fX5_readNumber N).bind fun (q : Int32 × zM) => zp q fun r5 M63 => zj (fun (M_76 : zM) => some ((1 : Int32), M_76)) fun J6 => if r5 = 0 then ((fX5_readName M63).bind fun (q : Int32 × zM) => zp q fun r7 M70 => if r7 = 0 then some (0, M70) else J6 M70) else J6 M63)) (CPost g S L N l (pPrim br g q1)) := by
    unfold pPrim
    by_cases c0 : g q1 = 40
    · rw [if_pos c0, if_pos c0]
      refine wpO_bk (wpO_mono (hr N q1 l hN c0) ?_)
      rintro ⟨a, N1⟩ h1
      exact wpO_pk (wpO_ret h1)
    · rw [if_neg c0, if_neg c0]
      refine wpO_bk (wpO_mono (c_num hg hN) ?_)
      rintro ⟨a, N1⟩ h1
      refine wpO_pk ?_
      by_cases c1 : isDg (g q1) = true
      · rw [if_pos c1] at h1
        obtain ⟨e1, f1, h1⟩ := h1
        dsimp only at e1 f1 h1
        subst e1
        rw [if_pos c1]
        unfold zj
        exact wpO_fk (by decide) (wpO_ret ⟨rfl, f1, h1⟩)
      · rw [if_neg c1] at h1
        obtain ⟨e1, f1, h1⟩ := h1
        dsimp only at e1 f1 h1
        subst e1
        rw [if_neg c1]
        unfold zj
        refine wpO_tk rfl (wpO_bk (wpO_mono (c_name hg h1) ?_))
        rintro ⟨b, N2⟩ h2
        refine wpO_pk ?_
        by_cases c2 : fX12_letterOf (g q1) = -1
        · rw [if_pos c2] at h2
          obtain ⟨e2, f2, h2⟩ := h2
          dsimp only at e2 f2 h2
          subst e2
          rw [if_pos c2]
          refine wpO_tk rfl (wpO_ret ⟨rfl, f1.trans f2, ?_⟩)
          show CSt g S L N2 q1 (l ++ [])
          rw [List.append_nil]
          exact h2
        · rw [if_neg c2] at h2
          obtain ⟨e2, f2, h2⟩ := h2
          dsimp only at e2 f2 h2
          subst e2
          rw [if_neg c2]
          exact wpO_fk (by decide) (wpO_ret ⟨rfl, f1.trans f2, h2⟩)
  refine wpO_bk (wpO_mono key ?_)
  generalize pPrim br g q1 = r at hpr ⊢
  rintro ⟨a, N1⟩ ⟨e1, f1, h1⟩
  dsimp only at e1 f1 h1
  subst e1
  obtain ⟨o1, o2, o3, -⟩ := hpr
  refine wpO_pk ?_
  have fin : ∀ x : zM → Prop, (∀ N2, x N2 → CPost g S L M l (pNeg q2 r) (bI r.1, N2)) → wpO (if bI r.1 = 0 then some N1 else if bI q2 = 0 then some N1 else (fX4_add 17 3000 N1).bind fun M97 => some M97) x → wpO ((if bI r.1 = 0 then some N1 else if bI q2 = 0 then some N1 else (fX4_add 17 3000 N1).bind fun M97 => some M97).bind fun M_100 => if bI r.1 = 0 ∨ bI r.1 = 1 then some (bI r.1, M_100) else none) (CPost g S L M l (pNeg q2 r)) := by
    intro x hx hw
    refine wpO_bk (wpO_mono hw (fun N2 h2 => wpO_tk (by cases r.1 <;> decide) (wpO_ret (hx N2 h2))))
  refine fin (fun N2 => CPost g S L M l (pNeg q2 r) (bI r.1, N2)) (fun N2 h2 => h2) ?_
  cases c : r.1 with
  | false =>
    refine wpO_tk rfl (wpO_ret ⟨by show bI false = bI r.1; rw [c], f.trans f1, ?_⟩)
    show CSt g S L N1 r.2.1 (l ++ (if r.1 = true ∧ q2 = true then r.2.2.1 ++ [3000] else r.2.2.1))
    rw [c, if_neg (fun z => by cases z.1)]
    exact h1
  | true =>
    refine wpO_fk (by decide) ?_
    cases t : q2 with
    | false =>
      refine wpO_tk rfl (wpO_ret ⟨by show bI true = bI r.1; rw [c], f.trans f1, ?_⟩)
      show CSt g S L N1 r.2.1 (l ++ (if r.1 = true ∧ false = true then r.2.2.1 ++ [3000] else r.2.2.1))
      rw [if_neg (fun z => by cases z.2)]
      exact h1
    | true =>
      have := m3 t
      refine wpO_fk (by decide) (c_add hg h1 (by rw [List.length_append]; omega) (fun N2 f2 h2 => wpO_ret ⟨by show bI true = bI r.1; rw [c], (f.trans f1).trans f2, ?_⟩))
      show CSt g S L N2 r.2.1 (l ++ (if r.1 = true ∧ true = true then r.2.2.1 ++ [3000] else r.2.2.1))
      rw [if_pos ⟨c, rfl⟩, ← List.append_assoc]
      exact h2
end CP
