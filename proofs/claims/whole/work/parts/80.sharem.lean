/-! shares: the reference -/
theorem shl8 : ∀ i, i < 8 → zshl (nI i) 8 = nI (i * 256) := by decide
theorem or256 : ∀ i, i < 8 → ∀ x, x < 256 → i * 256 ||| x = i * 256 + x := by decide +kernel
theorem ix51 {i u : Nat} (hi : i < 8) (hu : u < 256) : zshl (nI i) 8 ||| nI u = nI (i * 256 + u) := by rw [shl8 i hi, nI_or, or256 i hi u hu]
def F51 (R T : zM) : Prop := (∀ k, k ≠ 36 → k ≠ 46 → k ≠ 51 → T.1 k = R.1 k) ∧ (∀ j, j < 13 ∨ 17 < j → j ≠ 22 → T.1 36 j = R.1 36 j) ∧ T.2.1 = R.2.1 ∧ ∀ j, j ≠ 13 → T.2.2 j = R.2.2 j
theorem F51.refl (R : zM) : F51 R R := ⟨fun _ _ _ _ => rfl, fun _ _ _ => rfl, rfl, fun _ _ => rfl⟩
theorem F51.trans {A B C : zM} (h : F51 A B) (g : F51 B C) : F51 A C := ⟨fun k a b c => (g.1 k a b c).trans (h.1 k a b c), fun j a b => (g.2.1 j a b).trans (h.2.1 j a b), g.2.2.1.trans h.2.2.1, fun j hj => (g.2.2.2 j hj).trans (h.2.2.2 j hj)⟩
theorem FrQ.F51 {A B : zM} (h : FrQ A B) : F51 A B := ⟨fun k a b _ => h.1 k a b, h.2.1, h.2.2.1, h.2.2.2⟩
theorem F51.SI (R : zM) (j : Nat) (x : Int32) : F51 R (zSI R 51 j x) := ⟨fun k _ _ c => zSI_other _ _ _ c, fun j _ _ => by rw [zSI_other _ _ _ (by decide)], rfl, fun _ _ => rfl⟩
def FrQ_refl (R : zM) : FrQ R R := ⟨fun _ _ _ => rfl, fun _ _ _ => rfl, rfl, fun _ _ => rfl⟩
theorem FrQ_trans {A B C : zM} (h : FrQ A B) (g : FrQ B C) : FrQ A C := ⟨fun k a b => (g.1 k a b).trans (h.1 k a b), fun j a b => (g.2.1 j a b).trans (h.2.1 j a b), g.2.2.1.trans h.2.2.1, fun j hj => (g.2.2.2 j hj).trans (h.2.2.2 j hj)⟩
section SHM
variable {B R : zM} {n L I S : Nat} {c : Nat → Nat} {v : (Nat → Int32) → Int32}
def SR (B : zM) (L : Nat) (c : Nat → Nat) (R : zM) : Prop := ME B R 37 44 ∧ ∀ i, i < L → R.1 43 i = nI (c i)
theorem F51.SR {T : zM} (h : F51 R T) (s : SR B L c R) : SR B L c T := by
  obtain ⟨⟨e1, e2, e3, e4, e5, e6, e7, e8⟩, e9⟩ := s
  exact ⟨⟨by rw [h.2.1 1 (by omega) (by omega)]; exact e1, by rw [h.1 38 (by omega) (by omega) (by omega)]; exact e2, by rw [h.1 39 (by omega) (by omega) (by omega)]; exact e3, by rw [h.1 37 (by omega) (by omega) (by omega)]; exact e4, by rw [h.1 44 (by omega) (by omega) (by omega)]; exact e5, by rw [h.2.1 21 (by omega) (by omega)]; exact e6, by rw [h.2.1 4 (by omega) (by omega)]; exact e7, by rw [h.2.2.2 19 (by omega)]; exact e8⟩, fun i hi => by rw [h.1 43 (by omega) (by omega) (by omega)]; exact e9 i hi⟩
def wrB (B : zM) (L : Nat) (c : Nat → Nat) (v : (Nat → Int32) → Int32) (r t : Nat) : Int32 := fX12_put (v (sE B 37 (nI (c (L - 1 - r))) t))
def tbR (n L I : Nat) (wr : Nat → Nat → Int32) (i : Nat) (R : zM) : Prop := ∀ i', i ≤ i' → i' ≤ L → ∀ u, u < 2 ^ n → R.1 51 (i' * 256 + u) = bst I wr (L - i') u
theorem m_given (hA : AR B 44 S v) (hL : L ≤ 6) (s : SR B L c R) {i t u : Nat} (hi : i < L) (ht : t < 8) (hu : u < 256) (h256 : u ||| 2 ^ t < 256) : ∃ T, fX12_givenBy (nI i) (nI u) (nI t) R = some (wrB B L c v (L - 1 - i) t + R.1 51 ((i + 1) * 256 + (u ||| 2 ^ t)), T) ∧ FrQ R T := by
  obtain ⟨⟨r, T⟩, e1, e2, e3⟩ := m_mt (a := 37) (N := R) (told := nI (c i)) (t := t) rfl (by decide) hA ht s.1
  dsimp only at e2 e3
  refine ⟨T, ?_, e3⟩
  unfold fX12_givenBy
  rw [if_pos (zinT (show i < 16 by omega) (by omega)), nI_clamp (show i < 2 ^ 31 by omega), s.2 i hi, e1, Option.bind_some, zp_mk, nI_1, shl8 (i + 1) (by omega), nI_or, zshl_2 (show t < 31 by omega), nI_or, Nat.or_assoc, or256 (i + 1) (by omega) _ h256, if_pos (zinT (show (i + 1) * 256 + (u ||| 2 ^ t) < 1792 by omega) (by omega)), nI_clamp (show (i + 1) * 256 + (u ||| 2 ^ t) < 2 ^ 31 by omega), e3.1 51 (by omega) (by omega), e2]
  unfold wrB
  rw [show L - 1 - (L - 1 - i) = i by omega]
theorem m_most (hA : AR B 44 S v) (hn : n ≤ 8) (hL : L ≤ 6) (hI : I < 2 ^ n) (hB : B.1 36 1 = nI n) (s : SR B L c R) {i u : Nat} (hi : i < L) (hu : u < 2 ^ n) (htb : tbR n L I (wrB B L c v) (i + 1) R) (x1 : Int32) : ∃ T, fX12_shares_L202 x1 (nI I) (nI i) (nI u) 4000 (R.1 51 ((i + 1) * 256 + u)) 0 R = some (bst I (wrB B L c v) (L - i) u, T) ∧ FrQ R T := by
  have u256 : u < 256 := Nat.lt_of_lt_of_le hu (pow_le_256 hn)
  have e0 := htb (i + 1) (Nat.le_refl _) (by omega) u hu
  rw [show L - (i + 1) = L - 1 - i by omega] at e0
  have fin : bst I (wrB B L c v) (L - i) u = fo (hv I u) (fun t => wrB B L c v (L - 1 - i) t + bst I (wrB B L c v) (L - 1 - i) (u ||| 2 ^ t)) (bst I (wrB B L c v) (L - 1 - i) u) n := by
    rw [show L - i = (L - 1 - i) + 1 by omega]
    have := fo_more (hs := hv I u) (vl := fun t => wrB B L c v (L - 1 - i) t + bst I (wrB B L c v) (L - 1 - i) (u ||| 2 ^ t)) (x := bst I (wrB B L c v) (L - 1 - i) u) (n := n) (8 - n) (fun t t1 t2 => by
      cases q : hv I u t
      · rfl
      · exact absurd (hv_ok hn hI hu (by omega) q).1 (by omega))
    rw [show n + (8 - n) = 8 by omega] at this
    exact this
  rw [e0, fin]
  refine zforI (fun k (s : Int32 × Int32 × zM) => fX12_shares_L202 x1 (nI I) (nI i) (nI u) k s.1 s.2.1 s.2.2) (fun j s => s.1 = fo (hv I u) (fun t => wrB B L c v (L - 1 - i) t + bst I (wrB B L c v) (L - 1 - i) (u ||| 2 ^ t)) (bst I (wrB B L c v) (L - 1 - i) u) j ∧ s.2.1 = nI j ∧ FrQ R s.2.2) n (fun o => ∃ T, o = some (fo (hv I u) (fun t => wrB B L c v (L - 1 - i) t + bst I (wrB B L c v) (L - 1 - i) (u ||| 2 ^ t)) (bst I (wrB B L c v) (L - 1 - i) u) n, T) ∧ FrQ R T) ?_ ?_ n 0 4000 (_, 0, R) (by omega) (by omega) ⟨rfl, rfl, FrQ_refl R⟩
  · rintro k j ⟨x, b, T⟩ hj ⟨q1, q2, q3⟩
    dsimp only at q1 q2 q3 ⊢
    subst q2
    have hsT : SR B L c T := q3.F51.SR s
    have e1 : T.1 36 1 = nI n := by rw [hsT.1.1]; exact hB
    by_cases cc : hv I u j = true
    · obtain ⟨o1, o2, -⟩ := hv_ok hn hI hu (by omega) cc
      obtain ⟨T2, g1, g2⟩ := m_given hA hL hsT hi (show j < 8 by omega) u256 (Nat.lt_of_lt_of_le o2 (pow_le_256 hn))
      have ev : T.1 51 ((i + 1) * 256 + (u ||| 2 ^ j)) = bst I (wrB B L c v) (L - 1 - i) (u ||| 2 ^ j) := by
        rw [q3.1 51 (by omega) (by omega), htb (i + 1) (Nat.le_refl _) (by omega) _ o2, show L - (i + 1) = L - 1 - i by omega]
      rw [ev] at g1
      refine ⟨(zmax x (wrB B L c v (L - 1 - i) j + bst I (wrB B L c v) (L - 1 - i) (u ||| 2 ^ j)), nI (j + 1), T2), ⟨?_, rfl, FrQ_trans q3 g2⟩, ?_⟩
      · show _ = (if hv I u j = true then _ else _)
        rw [if_pos cc, q1]
      · rw [fX12_shares_L202.eq_2, e1, if_neg (leF hj (by omega)), has_hv, if_pos cc, if_neg (by decide), g1, Option.bind_some, zp_mk, nI_1]
        simp only [zlet, Option.bind_some, zp_mk]
    · refine ⟨(x, nI (j + 1), T), ⟨?_, rfl, q3⟩, ?_⟩
      · show _ = (if hv I u j = true then _ else _)
        rw [if_neg cc, q1]
      · rw [fX12_shares_L202.eq_2, e1, if_neg (leF hj (by omega)), has_hv, if_neg cc, if_pos rfl, Option.bind_some, zp_mk, nI_1]
  · rintro k ⟨x, b, T⟩ ⟨q1, q2, q3⟩
    dsimp only at q1 q2 q3 ⊢
    subst q2
    have e1 : T.1 36 1 = nI n := by rw [(q3.F51.SR s).1.1]; exact hB
    exact ⟨T, by rw [fX12_shares_L202.eq_2, e1, if_pos (leT (Nat.le_refl n) (by omega)), q1], q3⟩
theorem all_eq (hn : n ≤ 8) {T : zM} (e : T.1 36 1 = nI n) : fX12_all T = nI (2 ^ n - 1) := by
  unfold fX12_all
  have := Nat.two_pow_pos n
  rw [e, zshl_2 (by omega), show 2 ^ n = (2 ^ n - 1) + 1 by omega, nI_pred]
  rfl
theorem m_rowS (hA : AR B 44 S v) (hn : n ≤ 8) (hL : L ≤ 6) (hI : I < 2 ^ n) (hB : B.1 36 1 = nI n) (s : SR B L c R) {i : Nat} (hi : i < L) (htb : tbR n L I (wrB B L c v) (i + 1) R) (x1 : Int32) : ∃ Z, fX12_shares_L173 x1 (nI I) (nI i) 4000 0 R = some Z ∧ F51 R Z ∧ tbR n L I (wrB B L c v) i Z := by
  have p256 := pow_le_256 hn
  have ppos := Nat.two_pow_pos n
  refine zforI (fun k (s : Int32 × zM) => fX12_shares_L173 x1 (nI I) (nI i) k s.1 s.2) (fun u s => s.1 = nI u ∧ F51 R s.2 ∧ tbR n L I (wrB B L c v) (i + 1) s.2 ∧ ∀ u', u' < u → s.2.1 51 (i * 256 + u') = bst I (wrB B L c v) (L - i) u') (2 ^ n) (fun o => ∃ Z, o = some Z ∧ F51 R Z ∧ tbR n L I (wrB B L c v) i Z) ?_ ?_ (2 ^ n) 0 4000 (0, R) (by omega) (by omega) ⟨rfl, F51.refl R, htb, fun u' hu' => absurd hu' (by omega)⟩
  · rintro k u ⟨b, Z⟩ hu ⟨q1, q2, q3, q4⟩
    dsimp only at q1 q2 q3 q4 ⊢
    subst q1
    have sZ := q2.SR s
    have e1 : Z.1 36 1 = nI n := by rw [sZ.1.1]; exact hB
    obtain ⟨T, g1, g2⟩ := m_most hA hn hL hI hB sZ hi hu q3 x1
    refine ⟨(nI (u + 1), zSI T 51 (i * 256 + u) (bst I (wrB B L c v) (L - i) u)), ⟨rfl, (q2.trans g2.F51).trans (F51.SI _ _ _), fun i' h1 h2 u' hu' => ?_, fun u' h1 => ?_⟩, ?_⟩
    · rw [gSI, if_neg (by omega), g2.1 51 (by omega) (by omega)]
      exact q3 i' h1 h2 u' hu'
    · show (zSI T 51 (i * 256 + u) (bst I (wrB B L c v) (L - i) u)).1 51 (i * 256 + u') = _
      rw [gSI]
      by_cases cu : u' = u
      · subst cu; rw [if_pos ⟨rfl, rfl⟩]
      · rw [if_neg (by omega), g2.1 51 (by omega) (by omega)]
        exact q4 u' (by omega)
    · rw [fX12_shares_L173.eq_2, all_eq hn e1, if_neg (ltF (show u ≤ 2 ^ n - 1 by omega) (by omega)), nI_1, ix51 (show i + 1 < 8 by omega) (show u < 256 by omega), if_pos (zinT (show (i + 1) * 256 + u < 1792 by omega) (by omega)), nI_clamp (show (i + 1) * 256 + u < 2 ^ 31 by omega)]
      simp only [zlet]
      rw [g1, Option.bind_some, zp_mk, ix51 (show i < 8 by omega) (show u < 256 by omega), if_pos (zinT (show i * 256 + u < 1792 by omega) (by omega)), nI_clamp (show i * 256 + u < 2 ^ 31 by omega), nI_1]
  · rintro k ⟨b, Z⟩ ⟨q1, q2, q3, q4⟩
    dsimp only at q1 q2 q3 q4 ⊢
    subst q1
    have e1 : Z.1 36 1 = nI n := by rw [(q2.SR s).1.1]; exact hB
    refine ⟨Z, by rw [fX12_shares_L173.eq_2, all_eq hn e1, if_pos (ltT (show 2 ^ n - 1 < 2 ^ n by omega) (by omega))], q2, fun i' h1 h2 u hu => ?_⟩
    rcases Nat.lt_or_ge i i' with z | z
    · exact q3 i' z h2 u hu
    · have : i' = i := by omega
      subst this
      exact q4 u hu
theorem m_rows (hA : AR B 44 S v) (hn : n ≤ 8) (hL : L ≤ 6) (hI : I < 2 ^ n) (hB : B.1 36 1 = nI n) (x1 : Int32) : ∀ i m R, i ≤ L → i < m → SR B L c R → tbR n L I (wrB B L c v) i R → ∃ Z, fX12_shares_L165 x1 (nI I) m (nI i - 1) R = some Z ∧ F51 R Z ∧ tbR n L I (wrB B L c v) 0 Z := by
  intro i
  induction i with
  | zero =>
    intro m R hi hm hs ht
    obtain ⟨m, rfl⟩ : ∃ q, m = q + 1 := ⟨m - 1, by omega⟩
    refine ⟨R, ?_, F51.refl R, ht⟩
    rw [m1e, fX12_shares_L165.eq_2, if_pos (by decide)]
  | succ i ih =>
    intro m R hi hm hs ht
    obtain ⟨m, rfl⟩ : ∃ q, m = q + 1 := ⟨m - 1, by omega⟩
    obtain ⟨Z, e, f, t⟩ := m_rowS hA hn hL hI hB hs (show i < L by omega) ht x1
    obtain ⟨Y, e2, f2, t2⟩ := ih m Z (by omega) (by omega) (f.SR hs) t
    refine ⟨Y, ?_, f.trans f2, t2⟩
    rw [nI_pred, fX12_shares_L165.eq_2, if_neg (nI_nneg (by omega)), e, Option.bind_some, pred8 i (by omega), e2]
theorem m_zero (hn : n ≤ 8) (hL : L ≤ 6) (e1 : R.1 36 1 = nI n) (x3 : Int32) : ∃ Z, fX12_shares_L132 (nI L) x3 4000 0 R = some Z ∧ F51 R Z ∧ ∀ u, u < 2 ^ n → Z.1 51 (L * 256 + u) = 0 := by
  have p256 := pow_le_256 hn
  have ppos := Nat.two_pow_pos n
  refine zforI (fun k (s : Int32 × zM) => fX12_shares_L132 (nI L) x3 k s.1 s.2) (fun u s => s.1 = nI u ∧ F51 R s.2 ∧ ∀ u', u' < u → s.2.1 51 (L * 256 + u') = 0) (2 ^ n) (fun o => ∃ Z, o = some Z ∧ F51 R Z ∧ ∀ u, u < 2 ^ n → Z.1 51 (L * 256 + u) = 0) ?_ ?_ (2 ^ n) 0 4000 (0, R) (by omega) (by omega) ⟨rfl, F51.refl R, fun u' hu' => absurd hu' (by omega)⟩
  · rintro k u ⟨b, Z⟩ hu ⟨q1, q2, q3⟩
    dsimp only at q1 q2 q3 ⊢
    subst q1
    have e : Z.1 36 1 = nI n := by rw [q2.2.1 1 (by omega) (by omega)]; exact e1
    refine ⟨(nI (u + 1), zSI Z 51 (L * 256 + u) 0), ⟨rfl, q2.trans (F51.SI _ _ _), fun u' h1 => ?_⟩, ?_⟩
    · show (zSI Z 51 (L * 256 + u) 0).1 51 (L * 256 + u') = _
      rw [gSI]
      by_cases cu : u' = u
      · subst cu; rw [if_pos ⟨rfl, rfl⟩]
      · rw [if_neg (by omega)]
        exact q3 u' (by omega)
    · rw [fX12_shares_L132.eq_2, all_eq hn e, if_neg (ltF (show u ≤ 2 ^ n - 1 by omega) (by omega)), ix51 (show L < 8 by omega) (show u < 256 by omega), if_pos (zinT (show L * 256 + u < 1792 by omega) (by omega)), nI_clamp (show L * 256 + u < 2 ^ 31 by omega), nI_1]
      rfl
  · rintro k ⟨b, Z⟩ ⟨q1, q2, q3⟩
    dsimp only at q1 q2 q3 ⊢
    subst q1
    have e : Z.1 36 1 = nI n := by rw [q2.2.1 1 (by omega) (by omega)]; exact e1
    exact ⟨Z, by rw [fX12_shares_L132.eq_2, all_eq hn e, if_pos (ltT (show 2 ^ n - 1 < 2 ^ n by omega) (by omega))], q2, q3⟩
theorem m_seek (hA : AR B 44 S v) (hn : n ≤ 8) (hL : L ≤ 6) (hI : I < 2 ^ n) (s : SR B L c R) {i u : Nat} (hi : i < L) (hu : u < 2 ^ n) (htb : tbR n L I (wrB B L c v) 0 R) (hne : ¬ bst I (wrB B L c v) (L - 1 - i) u = bst I (wrB B L c v) (L - 1 - i + 1) u) (x1 : Int32) : ∃ T, fX12_shares_L333 x1 (nI I) (nI u) (nI i) (bst I (wrB B L c v) (L - 1 - i + 1) u) 4000 0 R = some (nI (chT I (wrB B L c v) (L - 1 - i) u), T) ∧ FrQ R T := by
  have u256 : u < 256 := Nat.lt_of_lt_of_le hu (pow_le_256 hn)
  obtain ⟨t1, t2, t3⟩ := chT_ok hne
  have giv : ∀ T j, FrQ R T → j < 8 → hv I u j = true → ∃ T2, fX12_givenBy (nI i) (nI u) (nI j) T = some (wrB B L c v (L - 1 - i) j + bst I (wrB B L c v) (L - 1 - i) (u ||| 2 ^ j), T2) ∧ FrQ R T2 := by
    intro T j q hj cc
    obtain ⟨o1, o2, -⟩ := hv_ok hn hI hu (by omega) cc
    obtain ⟨T2, g1, g2⟩ := m_given hA hL (q.F51.SR s) hi hj u256 (Nat.lt_of_lt_of_le o2 (pow_le_256 hn))
    rw [q.1 51 (by omega) (by omega), htb (i + 1) (by omega) (by omega) _ o2, show L - (i + 1) = L - 1 - i by omega] at g1
    exact ⟨T2, g1, FrQ_trans q g2⟩
  generalize chT I (wrB B L c v) (L - 1 - i) u = D at t1 t2 t3 ⊢
  refine zforI (fun k (s : Int32 × zM) => fX12_shares_L333 x1 (nI I) (nI u) (nI i) (bst I (wrB B L c v) (L - 1 - i + 1) u) k s.1 s.2) (fun j s => s.1 = nI j ∧ FrQ R s.2) D (fun o => ∃ T, o = some (nI D, T) ∧ FrQ R T) ?_ ?_ D 0 4000 (0, R) (by omega) (by omega) ⟨rfl, FrQ_refl R⟩
  · rintro k j ⟨b, T⟩ hj ⟨q1, q2⟩
    dsimp only at q1 q2 ⊢
    subst q1
    have ct := t3 j hj
    unfold chF at ct
    by_cases cc : hv I u j = true
    · rw [cc, Bool.true_and] at ct
      obtain ⟨T2, g1, g2⟩ := giv T j q2 (by omega) cc
      refine ⟨(nI (j + 1), T2), ⟨rfl, g2⟩, ?_⟩
      rw [fX12_shares_L333.eq_2]
      simp only [zj]
      rw [has_hv, if_pos cc, if_neg (by decide), g1, Option.bind_some, zp_mk, if_neg (of_decide_eq_false ct), nI_1]
    · refine ⟨(nI (j + 1), T), ⟨rfl, q2⟩, ?_⟩
      rw [fX12_shares_L333.eq_2]
      simp only [zj]
      rw [has_hv, if_neg cc, if_pos rfl, nI_1]
  · rintro k ⟨b, T⟩ ⟨q1, q2⟩
    dsimp only at q1 q2 ⊢
    subst q1
    unfold chF at t2
    have cc : hv I u D = true := by
      cases q : hv I u D
      · rw [q] at t2; cases t2
      · rfl
    rw [cc, Bool.true_and] at t2
    obtain ⟨T2, g1, g2⟩ := giv T D q2 t1 cc
    refine ⟨T2, ?_, g2⟩
    rw [fX12_shares_L333.eq_2]
    simp only [zj]
    rw [has_hv, if_pos cc, if_neg (by decide), g1, Option.bind_some, zp_mk, if_pos (of_decide_eq_true t2)]
def G51 (R T : zM) : Prop := (∀ k, k ≠ 36 → k ≠ 46 → T.1 k = R.1 k) ∧ (∀ j, j < 13 ∨ 17 < j → j ≠ 22 → j ≠ 11 → T.1 36 j = R.1 36 j) ∧ (∀ k, k ≠ 42 → T.2.1 k = R.2.1 k) ∧ ∀ j, j ≠ 13 → T.2.2 j = R.2.2 j
theorem G51.refl (R : zM) : G51 R R := ⟨fun _ _ _ => rfl, fun _ _ _ _ => rfl, fun _ _ => rfl, fun _ _ => rfl⟩
theorem G51.trans {A B C : zM} (h : G51 A B) (g : G51 B C) : G51 A C := ⟨fun k a b => (g.1 k a b).trans (h.1 k a b), fun j a b d => (g.2.1 j a b d).trans (h.2.1 j a b d), fun k hk => (g.2.2.1 k hk).trans (h.2.2.1 k hk), fun j hj => (g.2.2.2 j hj).trans (h.2.2.2 j hj)⟩
theorem FrQ.G51 {A B : zM} (h : FrQ A B) : G51 A B := ⟨h.1, fun j a b _ => h.2.1 j a b, fun k _ => by rw [h.2.2.1], h.2.2.2⟩
theorem TM.G51 {A B : zM} (h : TM A B) : G51 A B := ⟨fun k a _ => h.1 k a, fun j _ _ d => h.2.1 j d, h.2.2.1, fun j _ => by rw [h.2.2.2]⟩
theorem G51.SR {T : zM} (h : G51 R T) (s : SR B L c R) : SR B L c T := by
  obtain ⟨⟨e1, e2, e3, e4, e5, e6, e7, e8⟩, e9⟩ := s
  exact ⟨⟨by rw [h.2.1 1 (by omega) (by omega) (by omega)]; exact e1, by rw [h.1 38 (by omega) (by omega)]; exact e2, by rw [h.1 39 (by omega) (by omega)]; exact e3, by rw [h.1 37 (by omega) (by omega)]; exact e4, by rw [h.1 44 (by omega) (by omega)]; exact e5, by rw [h.2.1 21 (by omega) (by omega) (by omega)]; exact e6, by rw [h.2.1 4 (by omega) (by omega) (by omega)]; exact e7, by rw [h.2.2.2 19 (by omega)]; exact e8⟩, fun i hi => by rw [h.1 43 (by omega) (by omega)]; exact e9 i hi⟩
theorem MR_q {T : zM} {l : List Int64} (h : MR R l) (f : FrQ R T) : MR T l := ⟨by rw [f.2.1 11 (by omega) (by omega)]; exact h.1, fun j w hj => by rw [f.2.2.1]; exact h.2 j w hj⟩
theorem m_tells (hA : AR B 44 S v) (hn : n ≤ 8) (hL : L ≤ 6) (hI : I < 2 ^ n) : ∀ r i u m R acc, i + r = L → r < m → u < 2 ^ n → SR B L c R → tbR n L I (wrB B L c v) 0 R → MR R acc → acc.length + r ≤ 16 → ∃ Z, fX12_shares_L286 (nI L) (nI I) m (nI u) (nI i) R = some Z ∧ G51 R Z ∧ MR Z (acc ++ tl I (wrB B L c v) r u) := by
  intro r
  induction r with
  | zero =>
    intro i u m R acc hi hm hu hs ht hc ha
    obtain ⟨m, rfl⟩ : ∃ q, m = q + 1 := ⟨m - 1, by omega⟩
    refine ⟨R, ?_, G51.refl R, ?_⟩
    · rw [fX12_shares_L286.eq_2, if_pos (leT (show L ≤ i by omega) (by omega))]
    · show MR R (acc ++ [])
      rw [List.append_nil]; exact hc
  | succ r ih =>
    intro i u m R acc hi hm hu hs ht hc ha
    obtain ⟨m, rfl⟩ : ∃ q, m = q + 1 := ⟨m - 1, by omega⟩
    have u256 : u < 256 := Nat.lt_of_lt_of_le hu (pow_le_256 hn)
    have hiL : i < L := by omega
    have er : L - 1 - i = r := by omega
    have e0 := ht (i + 1) (by omega) (by omega) u hu
    have e1 := ht i (by omega) (by omega) u hu
    rw [show L - (i + 1) = r by omega] at e0
    rw [show L - i = r + 1 by omega] at e1
    have pre : fX12_shares_L286 (nI L) (nI I) (m + 1) (nI u) (nI i) R = (if bst I (wrB B L c v) r u = bst I (wrB B L c v) (r + 1) u then some (nI u, -1, R) else (fX12_shares_L333 (nI L) (nI I) (nI u) (nI i) (bst I (wrB B L c v) (r + 1) u) 4000 0 R).bind fun (q : Int32 × zM) => zp q fun x7 M => zlet (nI u ||| (zshl 1 x7)) fun (x4 : Int32) => some (x4, x7, M) : Option (Int32 × Int32 × zM)).bind fun (q : Int32 × Int32 × zM) => zp q fun x4 q => zp q fun x7 M => (fX12_tell x7.toInt64 M).bind fun (M381 : zM) => fX12_shares_L286 (nI L) (nI I) m x4 (nI (i + 1)) M381 := by
      rw [fX12_shares_L286.eq_2, if_neg (leF hiL (by omega)), nI_1, ix51 (show i < 8 by omega) u256, if_pos (zinT (show i * 256 + u < 1792 by omega) (by omega)), nI_clamp (show i * 256 + u < 2 ^ 31 by omega), ix51 (show i + 1 < 8 by omega) u256]
      simp only [zlet]
      rw [if_pos (zinT (show (i + 1) * 256 + u < 1792 by omega) (by omega)), nI_clamp (show (i + 1) * 256 + u < 2 ^ 31 by omega), e0, e1]
    have step : ∀ (x : Int32) (u' : Nat) (T : zM), FrQ R T → u' < 2 ^ n → ∃ Z, ((fX12_tell x.toInt64 T).bind fun (M381 : zM) => fX12_shares_L286 (nI L) (nI I) m (nI u') (nI (i + 1)) M381) = some Z ∧ G51 R Z ∧ MR Z (acc ++ x.toInt64 :: tl I (wrB B L c v) r u') := by
      intro x u' T q hu'
      have : wpO ((fX12_tell x.toInt64 T).bind fun (M381 : zM) => fX12_shares_L286 (nI L) (nI I) m (nI u') (nI (i + 1)) M381) (fun Z => G51 R Z ∧ MR Z (acc ++ x.toInt64 :: tl I (wrB B L c v) r u')) := by
        refine vM_tell (MR_q hc q) (by omega) (fun N1 t1 r1 => ?_)
        have gN := q.G51.trans t1.G51
        obtain ⟨Z, e1, t2, r2⟩ := ih (i + 1) u' m N1 (acc ++ [x.toInt64]) (by omega) (by omega) hu' (gN.SR hs) (fun a a1 a2 b b1 => by rw [gN.1 51 (by omega) (by omega)]; exact ht a a1 a2 b b1) r1 (by rw [List.length_append]; simp; omega)
        rw [List.append_assoc] at r2
        exact ⟨Z, e1, gN.trans t2, r2⟩
      exact this
    show ∃ Z, _ ∧ G51 R Z ∧ MR Z (acc ++ (if bst I (wrB B L c v) r u = bst I (wrB B L c v) (r + 1) u then (-1 : Int32).toInt64 :: tl I (wrB B L c v) r u else (nI (chT I (wrB B L c v) r u)).toInt64 :: tl I (wrB B L c v) r (u ||| 2 ^ chT I (wrB B L c v) r u)))
    rw [pre]
    by_cases cb : bst I (wrB B L c v) r u = bst I (wrB B L c v) (r + 1) u
    · rw [if_pos cb, if_pos cb, Option.bind_some, zp_mk, zp_mk]
      exact step (-1) u R (FrQ_refl R) hu
    · rw [if_neg cb, if_neg cb]
      have sk := m_seek hA hn hL hI hs hiL hu ht (by rw [er]; exact cb) (nI L)
      rw [er] at sk
      obtain ⟨T, g1, g2⟩ := sk
      obtain ⟨t1, t2, -⟩ := chT_ok cb
      have cc : hv I u (chT I (wrB B L c v) r u) = true := by
        unfold chF at t2
        cases q : hv I u (chT I (wrB B L c v) r u)
        · rw [q] at t2; cases t2
        · rfl
      obtain ⟨-, o2, -⟩ := hv_ok hn hI hu (by omega) cc
      rw [g1, Option.bind_some, zp_mk, zshl_2 (by omega), nI_or]
      simp only [zlet]
      rw [Option.bind_some, zp_mk, zp_mk]
      exact step _ _ T g2 o2
end SHM
