/-! the reference reads a rule, and works it out -/
def FrR (M N : zM) : Prop := (∀ k, k ≠ 36 → N.1 k = M.1 k) ∧ (∀ j, j ≠ 16 → j ≠ 17 → N.1 36 j = M.1 36 j) ∧ N.2 = M.2
theorem FrR.refl (M : zM) : FrR M M := ⟨fun _ _ => rfl, fun _ _ _ => rfl, rfl⟩
theorem FrR.trans {A B C : zM} (h : FrR A B) (k : FrR B C) : FrR A C := ⟨fun j a => (k.1 j a).trans (h.1 j a), fun j a b => (k.2.1 j a b).trans (h.2.1 j a b), k.2.2.trans h.2.2⟩
def EnvOk (e : Nat → Int32) (M : zM) : Prop := (M.1 36 22 = 0 ∧ ∀ k, k < 6 → e k = 0) ∨ (M.1 36 22 ≠ 0 ∧ ∀ k, k < 6 → M.1 46 k = e k)
theorem EnvOk.fr {e : Nat → Int32} {M N : zM} (h : EnvOk e M) (f : FrR M N) : EnvOk e N := by
  unfold EnvOk
  rw [f.2.1 22 (by omega) (by omega), f.1 46 (by omega)]
  exact h
def MSt (g : Nat → Int32) (S L a : Nat) (e : Nat → Int32) (M : zM) (p : Nat) (ok : Bool) : Prop := (M.1 36 14 = nI L ∧ M.1 36 15 = nI 40 ∧ M.1 36 16 = nI p ∧ M.1 36 17 = (if ok = true then -1 else nI p)) ∧ (M.2.2 13 = some a ∧ zSH a = .inr (3, zLen a) ∧ S ≤ zLen a ∧ zLen a ≤ 80 ∧ a ≠ 36 ∧ ∀ j, j < S → M.1 a j = (g j).toInt8.toInt32) ∧ EnvOk e M ∧ p ≤ S ∧ S = min L 40 ∧ L ≤ 80
def MPost (g : Nat → Int32) (S L a : Nat) (e : Nat → Int32) (M : zM) (r : pR) (q : Int32 × zM) : Prop := FrR M q.2 ∧ MSt g S L a e q.2 r.2.1 r.1 ∧ (r.1 = true → q.1 = r.2.2.2 e)
section MP
variable {g : Nat → Int32} {S L a : Nat} {e : Nat → Int32}
theorem m_fine1 {M : zM} {p : Nat} (h : MSt g S L a e M p true) : fX12_fine M = 1 := by
  unfold fX12_fine
  rw [if_pos (show M.1 36 17 = -1 from h.1.2.2.2)]
theorem m_fine0 {M : zM} {p : Nat} (h : MSt g S L a e M p false) : fX12_fine M = 0 := by
  unfold fX12_fine
  have h1 : M.1 36 17 = nI p := h.1.2.2.2
  obtain ⟨-, -, -, h2, h3, h4⟩ := h
  rw [if_neg (by rw [h1]; exact fun z => nI_ne_m1 (show p < 2 ^ 31 by omega) z.symm)]
theorem b_and255 : ∀ b, b < 256 → (nI b).toInt8.toInt32 &&& 255 = nI b := by decide +kernel
theorem m_here {M : zM} {p : Nat} {ok : Bool} (hg : GS g S) (h : MSt g S L a e M p ok) : fX12_here M = some (g p) := by
  obtain ⟨⟨a1, a2, a3, -⟩, ⟨b1, b2, b3, b4, b5, b6⟩, -, c1, c2, c3⟩ := h
  unfold fX12_here
  rw [a1, a2, a3]
  by_cases c : p < S
  · obtain ⟨b, hb, eb⟩ := hg.2.2 p c
    rw [if_neg (leF (show p < L by omega) (by omega)), if_neg (leF (show p < 40 by omega) (by omega)), b1]
    simp only [Option.bind_some]
    rw [if_pos b2, if_pos (zinT (show p < zLen a by omega) (by omega)), nI_clamp (by omega), b6 p c, eb, b_and255 b hb]
  · rw [hg.2.1 p (by omega)]
    by_cases c4 : L ≤ p
    · rw [if_pos (leT c4 (by omega))]
    · rw [if_neg (leF (by omega) (by omega)), if_pos (leT (show 40 ≤ p by omega) (by omega))]
theorem m_adv {α : Type} {M : zM} {p : Nat} {f : zM → Option α} {K : α → Prop} (h : MSt g S L a e M p true) (hp : p < S) (k : ∀ N, FrR M N → MSt g S L a e N (p + 1) true → wpO (f N) K) : wpO (zlet (zSI M 36 16 (M.1 36 16 + 1)) f) K := by
  have hf : FrR M (zSI M 36 16 (M.1 36 16 + 1)) := ⟨fun k hk => zSI_other M 16 _ hk, fun j h1 h2 => by rw [gSI, if_neg (fun z => h1 z.2)], rfl⟩
  obtain ⟨⟨a1, a2, a3, a4⟩, ⟨b1, b2, b3, b4, b5, b6⟩, hE, c1, c2, c3⟩ := h
  refine k _ hf ⟨⟨?_, ?_, ?_, ?_⟩, ⟨b1, b2, b3, b4, b5, fun j hj => ?_⟩, hE.fr hf, hp, c2, c3⟩
  · rw [gSI]; simp [a1]
  · rw [gSI]; simp [a2]
  · rw [gSI, a3, nI_1]; simp
  · rw [gSI]; simpa using a4
  · rw [hf.1 a b5]; exact b6 j hj
theorem m_flt {α : Type} {M : zM} {p : Nat} {f : zM → Option α} {K : α → Prop} (h : MSt g S L a e M p true) (k : ∀ N, FrR M N → MSt g S L a e N p false → wpO (f N) K) : wpO (zlet (fX12_fault (M.1 36 16) M) f) K := by
  have ef : fX12_fault (M.1 36 16) M = zSI M 36 17 (M.1 36 16) := by
    unfold fX12_fault
    rw [if_neg (by rw [m_fine1 h]; decide)]
    rfl
  rw [ef]
  have hf : FrR M (zSI M 36 17 (M.1 36 16)) := ⟨fun k hk => zSI_other M 17 _ hk, fun j h1 h2 => by rw [gSI, if_neg (fun z => h2 z.2)], rfl⟩
  obtain ⟨⟨a1, a2, a3, a4⟩, ⟨b1, b2, b3, b4, b5, b6⟩, hE, c1, c2, c3⟩ := h
  refine k _ hf ⟨⟨?_, ?_, ?_, ?_⟩, ⟨b1, b2, b3, b4, b5, fun j hj => ?_⟩, hE.fr hf, c1, c2, c3⟩
  · rw [gSI]; simp [a1]
  · rw [gSI]; simp [a2]
  · rw [gSI]; simp [a3]
  · rw [gSI, if_pos ⟨rfl, rfl⟩, a3]; rfl
  · rw [hf.1 a b5]; exact b6 j hj
theorem m_pass0 {α : Type} {M : zM} {p : Nat} {c : Int32} {f : Int32 × zM → Option α} {K : α → Prop} (h : MSt g S L a e M p false) (k : wpO (f (0, M)) K) : wpO ((fX12_passes c M).bind f) K := by
  unfold fX12_passes
  rw [if_pos (m_fine0 h)]
  exact k
theorem m_passN {α : Type} {M : zM} {p : Nat} {ok : Bool} {c : Int32} {f : Int32 × zM → Option α} {K : α → Prop} (hg : GS g S) (h : MSt g S L a e M p ok) (hc : g p ≠ c) (k : wpO (f (0, M)) K) : wpO ((fX12_passes c M).bind f) K := by
  unfold fX12_passes
  rw [m_here hg h]
  simp only [Option.bind_some]
  rw [if_neg hc]
  split <;> exact k
theorem m_passY {α : Type} {M : zM} {p : Nat} {c : Int32} {f : Int32 × zM → Option α} {K : α → Prop} (hg : GS g S) (h : MSt g S L a e M p true) (hc : g p = c) (hc1 : c ≠ -1) (k : ∀ N, FrR M N → MSt g S L a e N (p + 1) true → wpO (f (1, N)) K) : wpO ((fX12_passes c M).bind f) K := by
  refine wpO_bk ?_
  unfold fX12_passes
  exact wpO_fk (by rw [m_fine1 h]; decide) (wpO_ek (m_here hg h) (wpO_tk hc (m_adv h (hg.lt (by rw [hc]; exact hc1)) (fun N f1 h1 => wpO_ret (k N f1 h1)))))
theorem in_dg (x : Int32) : fX12_in x 48 57 = 0 ↔ isDg x = false := by
  unfold fX12_in isDg
  by_cases h : x < 48
  · simp [h]
  · by_cases h2 : 57 < x <;> simp [h, h2]
theorem dg_byte : ∀ d, d < 10 → (nI (48 + d)).toInt8.toInt32 - 48 = nI d := by decide +kernel
theorem m_one {α : Type} {M : zM} {p d : Nat} {f : Int32 × zM → Option α} {K : α → Prop} (hg : GS g S) (h : MSt g S L a e M p true) (hd : d < 10) (hp : p < S) (hc : g p = nI (48 + d)) (k : ∀ N, FrR M N → MSt g S L a e N (p + 1) true → wpO (f (nI d, N)) K) : wpO ((fX12_oneOf 48 10 M).bind f) K := by
  have hdg : isDg (g p) = true := by rw [hc]; exact (by decide +kernel : ∀ d, d < 10 → isDg (nI (48 + d)) = true) d hd
  refine wpO_bk ?_
  unfold fX12_oneOf
  refine wpO_fk (by rw [m_fine1 h]; decide) (wpO_ek (m_here hg h) (wpO_fk (show ¬ fX12_in (g p) 48 57 = 0 by rw [in_dg, hdg]; decide) (m_adv h hp (fun N f1 h1 => ?_))))
  obtain ⟨⟨a1, a2, a3, a4⟩, ⟨b1, b2, b3, b4, b5, b6⟩, hE, c1, c2, c3⟩ := h1
  refine wpO_ek b1 (wpO_tk b2 ?_)
  rw [a3, nI_pred]
  refine wpO_tk (zinT (show p < zLen a by omega) (by omega)) (wpO_ret ?_)
  rw [nI_clamp (show p < 2 ^ 31 by omega), b6 p hp, hc, dg_byte d hd]
  exact k N f1 ⟨⟨a1, a2, a3, a4⟩, ⟨b1, b2, b3, b4, b5, b6⟩, hE, c1, c2, c3⟩
theorem add10 (v d : Nat) : 10 * nI v + nI d = nI (10 * v + d) := by
  rw [show (10 : Int32) = nI 10 from rfl, nI_mulN, nI_add]
theorem m_num {M : zM} {p : Nat} (hg : GS g S) (h : MSt g S L a e M p true) (hdg : isDg (g p) = true) : wpO (fX12_number 3 M) (fun q => FrR M q.2 ∧ MSt g S L a e q.2 (pNum g p).1 true ∧ q.1 = (pNum g p).2) := by
  obtain ⟨h0, d0, l0, e0⟩ := hg.dg hdg
  have step : ∀ n v i M p (K : Int32 × zM → Prop), MSt g S L a e M p true → i < 3 → (isDg (g p) = false → K (nI v, M)) → (∀ d, d < 10 → g p = nI (48 + d) → isDg (g p) = true → ∀ N, FrR M N → MSt g S L a e N (p + 1) true → wpO (fX12_number_L11 3 n (nI (10 * v + d)) (nI (i + 1)) N) K) → wpO (fX12_number_L11 3 (n + 1) (nI v) (nI i) M) K := by
    intro n v i M p K h hi k0 k1
    rw [fX12_number_L11.eq_2]
    refine wpO_fk (show ¬ 3 ≤ nI i from leF (a := 3) hi (by omega)) (wpO_fk (by rw [m_fine1 h]; decide) (wpO_ek (m_here hg h) ?_))
    cases c : isDg (g p) with
    | false => exact wpO_tk ((in_dg _).mpr c) (wpO_ret (k0 c))
    | true =>
      obtain ⟨hl, d, ld, ed⟩ := hg.dg c
      refine wpO_fk (by rw [in_dg, c]; decide) (m_one hg h ld hl ed (fun N f1 h1 => wpO_pk (wpO_lk ?_)))
      rw [add10, nI_1]
      exact k1 d ld ed c N f1 h1
  have fin : ∀ n v M (K : Int32 × zM → Prop), K (v, M) → wpO (fX12_number_L11 3 (n + 1) v (nI 3) M) K := by
    intro n v M K k
    rw [fX12_number_L11.eq_2]
    exact wpO_tk (show 3 ≤ nI 3 from leT (a := 3) (Nat.le_refl 3) (by omega)) (wpO_ret k)
  unfold fX12_number
  refine m_one hg h l0 h0 e0 (fun N f1 h1 => wpO_pk (wpO_bk (step 3999 d0 1 N (p + 1) _ h1 (by omega) (fun c1 => ?_) (fun d1 l1 e1 c1 N1 f2 h2 => step 3998 _ 2 N1 (p + 2) _ h2 (by omega) (fun c2 => ?_) (fun d2 l2 e2 c2 N2 f3 h3 => fin 3997 _ N2 _ ?_)))))
  · refine wpO_pk (wpO_ret ?_)
    unfold pNum
    rw [if_neg (by rw [c1]; decide)]
    exact ⟨f1, h1, by show nI d0 = g p - 48; rw [e0, nI_sub48]⟩
  · refine wpO_pk (wpO_ret ?_)
    unfold pNum
    rw [if_pos c1, if_neg (by rw [c2]; decide)]
    exact ⟨f1.trans f2, h2, by show nI (10 * d0 + d1) = ((g p - 48) * 10 + g (p + 1)) - 48; rw [e0, e1, nI_sub48, mul10]⟩
  · refine wpO_pk (wpO_ret ?_)
    unfold pNum
    rw [if_pos c1, if_pos c2]
    exact ⟨(f1.trans f2).trans f3, h3, by show nI (10 * (10 * d0 + d1) + d2) = (((g p - 48) * 10 + g (p + 1)) - 48) * 10 + g (p + 2) - 48; rw [e0, e1, e2, nI_sub48, mul10, mul10]⟩
theorem m_lpP {rec : Nat → Int32 → zM → Option (Int32 × zM)} {d : Int32} {sub : Nat → pR} (hg : GS g S) (P0 : Nat) (hs : ∀ q, q ≤ S → pOk S q (sub q)) (hr : ∀ M p, P0 < p → MSt g S L a e M p true → wpO (rec 3 d M) (MPost g S L a e M (sub p))) : ∀ k n r x M, S ≤ r.2.1 + k → k < n → P0 ≤ r.2.1 → MSt g S L a e M r.2.1 r.1 → (r.1 = true → x = r.2.2.2 e) → wpO (fX12_product_L6 rec d n x M) (MPost g S L a e M (pLp isMul sub g k r)) := by
  intro k
  induction k with
  | zero =>
    intro n r x M hS hn hP h hx
    obtain ⟨n, rfl⟩ : ∃ m, n = m + 1 := ⟨n - 1, by omega⟩
    rw [fX12_product_L6.eq_2]
    cases c : r.1 with
    | false =>
      refine wpO_tk (m_fine0 (by rw [c] at h; exact h)) (wpO_ret ⟨FrR.refl M, h, hx⟩)
    | true =>
      refine wpO_fk (by rw [m_fine1 (by rw [c] at h; exact h)]; decide) (wpO_ek (m_here hg h) ?_)
      have eg : g r.2.1 = -1 := hg.2.1 _ (by omega)
      simp only [zj]
      refine wpO_fk (by rw [eg]; decide) (wpO_ek (m_here hg h) (wpO_fk (by rw [eg]; decide) (wpO_ret ⟨FrR.refl M, h, hx⟩)))
  | succ k ih =>
    intro n r x M hS hn hP h hx
    obtain ⟨n, rfl⟩ : ∃ m, n = m + 1 := ⟨n - 1, by omega⟩
    rw [fX12_product_L6.eq_2]
    cases c : r.1 with
    | false =>
      rw [show pLp isMul sub g (k + 1) r = r by unfold pLp; rw [if_neg (fun z => by rw [c] at z; cases z.1)]]
      exact wpO_tk (m_fine0 (by rw [c] at h; exact h)) (wpO_ret ⟨FrR.refl M, h, hx⟩)
    | true =>
      have h' := h
      rw [c] at h'
      refine wpO_fk (by rw [m_fine1 h']; decide) ?_
      rw [m_here hg h]
      simp only [Option.bind_some, zj]
      by_cases o : isMul (g r.2.1) = true
      · rw [show pLp isMul sub g (k + 1) r = pLp isMul sub g k (pJoin g r (sub (r.2.1 + 1))) by rw [pLp]; rw [if_pos ⟨c, o⟩]]
        have hlt : r.2.1 < S := hg.lt (fun z => by rw [z] at o; exact absurd o (by decide))
        have hsb := hs (r.2.1 + 1) hlt
        by_cases o1 : g r.2.1 = 42
        · rw [if_pos o1]
          refine wpO_lk (m_adv h' hlt (fun N f1 h1 => wpO_bk (wpO_mono (hr N (r.2.1 + 1) (by omega) h1) ?_)))
          rintro ⟨y, N2⟩ ⟨f2, h2, hy⟩
          dsimp only at f2 h2 hy
          rw [if_pos o1]
          refine wpO_pk ?_
          refine wpO_ek (show (if (1 : Int32) = 0 then (if y = 0 then some 0 else if ¬ y = 0 then some (x / y) else none) else some (x * y)) = some (x * y) from rfl) ?_
          exact wpO_mono (ih n (pJoin g r (sub (r.2.1 + 1))) _ N2 (by show S ≤ (sub (r.2.1 + 1)).2.1 + k; have := hsb.1; omega) (by omega) (by show P0 ≤ (sub (r.2.1 + 1)).2.1; have := hsb.1; omega) h2 (fun z => by
            show _ = jn (g r.2.1) (r.2.2.2 e) ((sub (r.2.1 + 1)).2.2.2 e)
            rw [hx c, hy z, o1]; rfl)) (fun q hq => ⟨(f1.trans f2).trans hq.1, hq.2⟩)
        · have o2 : g r.2.1 = 47 := by
            unfold isMul at o
            simpa [o1] using o
          rw [if_neg o1, if_pos o2]
          refine wpO_lk (m_adv h' hlt (fun N f1 h1 => wpO_bk (wpO_mono (hr N (r.2.1 + 1) (by omega) h1) ?_)))
          rintro ⟨y, N2⟩ ⟨f2, h2, hy⟩
          dsimp only at f2 h2 hy
          rw [if_neg o1]
          refine wpO_pk ?_
          refine wpO_ek (show (if (0 : Int32) = 0 then (if y = 0 then some 0 else if ¬ y = 0 then some (x / y) else none) else some (x * y)) = some (if y = 0 then 0 else x / y) from by by_cases q : y = 0 <;> simp [q]) ?_
          exact wpO_mono (ih n (pJoin g r (sub (r.2.1 + 1))) _ N2 (by show S ≤ (sub (r.2.1 + 1)).2.1 + k; have := hsb.1; omega) (by omega) (by show P0 ≤ (sub (r.2.1 + 1)).2.1; have := hsb.1; omega) h2 (fun z => by
            show _ = jn (g r.2.1) (r.2.2.2 e) ((sub (r.2.1 + 1)).2.2.2 e)
            rw [hx c, hy z, o2]; rfl)) (fun q hq => ⟨(f1.trans f2).trans hq.1, hq.2⟩)
      · rw [show pLp isMul sub g (k + 1) r = r by unfold pLp; rw [if_neg (fun z => o z.2)]]
        have o1 : ¬ g r.2.1 = 42 := fun z => o (by rw [z]; decide)
        have o2 : ¬ g r.2.1 = 47 := fun z => o (by rw [z]; decide)
        exact wpO_fk o1 (wpO_fk o2 (wpO_ret ⟨FrR.refl M, h, hx⟩))
theorem m_product {rec : Nat → Int32 → zM → Option (Int32 × zM)} {d : Int32} {sub : Nat → pR} {M : zM} {p : Nat} (hg : GS g S) (hs : ∀ q, q ≤ S → pOk S q (sub q)) (hr : ∀ M q, p ≤ q → MSt g S L a e M q true → wpO (rec 3 d M) (MPost g S L a e M (sub q))) (h : MSt g S L a e M p true) : wpO (fX12_product rec d M) (MPost g S L a e M (pLp isMul sub g 40 (sub p))) := by
  unfold fX12_product
  refine wpO_bk (wpO_mono (hr M p (Nat.le_refl p) h) ?_)
  have hsb := hs p h.2.2.2.1
  rintro ⟨x, N⟩ ⟨f1, h1, hx⟩
  dsimp only at f1 h1 hx
  have h40 := hg.1
  refine wpO_pk (wpO_bk (wpO_mono (m_lpP hg p hs (fun M q hq => hr M q (by omega)) 40 4000 (sub p) x N (by omega) (by omega) hsb.1 h1 hx) ?_))
  rintro ⟨y, N2⟩ ⟨f2, h2, hy⟩
  exact wpO_pk (wpO_ret ⟨f1.trans f2, h2, hy⟩)
theorem m_lpS {rec : Nat → Int32 → zM → Option (Int32 × zM)} {d : Int32} {sub : Nat → pR} (hg : GS g S) (P0 : Nat) (hs : ∀ q, q ≤ S → pOk S q (sub q)) (hr : ∀ M p, P0 < p → MSt g S L a e M p true → wpO (rec 2 d M) (MPost g S L a e M (sub p))) : ∀ k n r x M, S ≤ r.2.1 + k → k < n → P0 ≤ r.2.1 → MSt g S L a e M r.2.1 r.1 → (r.1 = true → x = r.2.2.2 e) → wpO (fX12_sum_L6 rec d n x M) (MPost g S L a e M (pLp isAdd sub g k r)) := by
  intro k
  induction k with
  | zero =>
    intro n r x M hS hn hP h hx
    obtain ⟨n, rfl⟩ : ∃ m, n = m + 1 := ⟨n - 1, by omega⟩
    rw [fX12_sum_L6.eq_2]
    cases c : r.1 with
    | false =>
      refine wpO_tk (m_fine0 (by rw [c] at h; exact h)) (wpO_ret ⟨FrR.refl M, h, hx⟩)
    | true =>
      refine wpO_fk (by rw [m_fine1 (by rw [c] at h; exact h)]; decide) (wpO_ek (m_here hg h) ?_)
      have eg : g r.2.1 = -1 := hg.2.1 _ (by omega)
      simp only [zj]
      refine wpO_fk (by rw [eg]; decide) (wpO_ek (m_here hg h) (wpO_fk (by rw [eg]; decide) (wpO_ret ⟨FrR.refl M, h, hx⟩)))
  | succ k ih =>
    intro n r x M hS hn hP h hx
    obtain ⟨n, rfl⟩ : ∃ m, n = m + 1 := ⟨n - 1, by omega⟩
    rw [fX12_sum_L6.eq_2]
    cases c : r.1 with
    | false =>
      rw [show pLp isAdd sub g (k + 1) r = r by unfold pLp; rw [if_neg (fun z => by rw [c] at z; cases z.1)]]
      exact wpO_tk (m_fine0 (by rw [c] at h; exact h)) (wpO_ret ⟨FrR.refl M, h, hx⟩)
    | true =>
      have h' := h
      rw [c] at h'
      refine wpO_fk (by rw [m_fine1 h']; decide) ?_
      rw [m_here hg h]
      simp only [Option.bind_some, zj]
      by_cases o : isAdd (g r.2.1) = true
      · rw [show pLp isAdd sub g (k + 1) r = pLp isAdd sub g k (pJoin g r (sub (r.2.1 + 1))) by rw [pLp]; rw [if_pos ⟨c, o⟩]]
        have hlt : r.2.1 < S := hg.lt (fun z => by rw [z] at o; exact absurd o (by decide))
        have hsb := hs (r.2.1 + 1) hlt
        by_cases o1 : g r.2.1 = 43
        · rw [if_pos o1]
          refine wpO_lk (m_adv h' hlt (fun N f1 h1 => wpO_bk (wpO_mono (hr N (r.2.1 + 1) (by omega) h1) ?_)))
          rintro ⟨y, N2⟩ ⟨f2, h2, hy⟩
          dsimp only at f2 h2 hy
          rw [if_pos o1]
          refine wpO_pk (wpO_lk ?_)
          exact wpO_mono (ih n (pJoin g r (sub (r.2.1 + 1))) _ N2 (by show S ≤ (sub (r.2.1 + 1)).2.1 + k; have := hsb.1; omega) (by omega) (by show P0 ≤ (sub (r.2.1 + 1)).2.1; have := hsb.1; omega) h2 (fun z => by
            show _ = jn (g r.2.1) (r.2.2.2 e) ((sub (r.2.1 + 1)).2.2.2 e)
            rw [hx c, hy z, o1]; rfl)) (fun q hq => ⟨(f1.trans f2).trans hq.1, hq.2⟩)
        · have o2 : g r.2.1 = 45 := by
            unfold isAdd at o
            simpa [o1] using o
          rw [if_neg o1, if_pos o2]
          refine wpO_lk (m_adv h' hlt (fun N f1 h1 => wpO_bk (wpO_mono (hr N (r.2.1 + 1) (by omega) h1) ?_)))
          rintro ⟨y, N2⟩ ⟨f2, h2, hy⟩
          dsimp only at f2 h2 hy
          rw [if_neg o1]
          refine wpO_pk (wpO_lk ?_)
          exact wpO_mono (ih n (pJoin g r (sub (r.2.1 + 1))) _ N2 (by show S ≤ (sub (r.2.1 + 1)).2.1 + k; have := hsb.1; omega) (by omega) (by show P0 ≤ (sub (r.2.1 + 1)).2.1; have := hsb.1; omega) h2 (fun z => by
            show _ = jn (g r.2.1) (r.2.2.2 e) ((sub (r.2.1 + 1)).2.2.2 e)
            rw [hx c, hy z, o2]; rfl)) (fun q hq => ⟨(f1.trans f2).trans hq.1, hq.2⟩)
      · rw [show pLp isAdd sub g (k + 1) r = r by unfold pLp; rw [if_neg (fun z => o z.2)]]
        have o1 : ¬ g r.2.1 = 43 := fun z => o (by rw [z]; decide)
        have o2 : ¬ g r.2.1 = 45 := fun z => o (by rw [z]; decide)
        exact wpO_fk o1 (wpO_fk o2 (wpO_ret ⟨FrR.refl M, h, hx⟩))
theorem m_sum {rec : Nat → Int32 → zM → Option (Int32 × zM)} {d : Int32} {sub : Nat → pR} {M : zM} {p : Nat} (hg : GS g S) (hs : ∀ q, q ≤ S → pOk S q (sub q)) (hr : ∀ M q, p ≤ q → MSt g S L a e M q true → wpO (rec 2 d M) (MPost g S L a e M (sub q))) (h : MSt g S L a e M p true) : wpO (fX12_sum rec d M) (MPost g S L a e M (pLp isAdd sub g 40 (sub p))) := by
  unfold fX12_sum
  refine wpO_bk (wpO_mono (hr M p (Nat.le_refl p) h) ?_)
  have hsb := hs p h.2.2.2.1
  rintro ⟨x, N⟩ ⟨f1, h1, hx⟩
  dsimp only at f1 h1 hx
  have h40 := hg.1
  refine wpO_pk (wpO_bk (wpO_mono (m_lpS hg p hs (fun M q hq => hr M q (by omega)) 40 4000 (sub p) x N (by omega) (by omega) hsb.1 h1 hx) ?_))
  rintro ⟨y, N2⟩ ⟨f2, h2, hy⟩
  exact wpO_pk (wpO_ret ⟨f1.trans f2, h2, hy⟩)
theorem pMin_fuel {g : Nat → Int32} {S : Nat} (h : GS g S) : ∀ k m p, S ≤ p + k → S ≤ p + m → pMin g k p = pMin g m p := by
  have z0 : ∀ m p, S ≤ p → pMin g m p = (p, false) := fun m p hp => by
    cases m with
    | zero => rfl
    | succ m => unfold pMin; rw [if_neg (by rw [h.2.1 p hp]; decide)]
  intro k
  induction k with
  | zero => intro m p h1 h2; rw [z0 m p (by omega)]; rfl
  | succ k ih =>
    intro m p h1 h2
    cases m with
    | zero => rw [z0 _ p (by omega)]; rfl
    | succ m =>
      rw [pMin, pMin, ih m (p + 1) (by omega) (by omega)]
theorem pSgn_minus {br : Nat → pR} {p : Nat} (hg : GS g S) (c : g p = 45) (e : Nat → Int32) : (pSgn br g p).1 = (pSgn br g (p + 1)).1 ∧ (pSgn br g p).2.1 = (pSgn br g (p + 1)).2.1 ∧ (pSgn br g p).2.2.2 e = -((pSgn br g (p + 1)).2.2.2 e) := by
  have h40 := hg.1
  have e1 : pMin g 40 p = ((pMin g 40 (p + 1)).1, !(pMin g 40 (p + 1)).2) := by
    rw [pMin_fuel hg 40 39 (p + 1) (by omega) (by omega)]
    show (if g p = 45 then _ else _) = _
    rw [if_pos c]
  unfold pSgn
  rw [e1]
  generalize pMin g 40 (p + 1) = q
  refine ⟨rfl, rfl, ?_⟩
  show (if (!q.2) = true then -((pPrim br g q.1).2.2.2 e) else (pPrim br g q.1).2.2.2 e) = -(if q.2 = true then -((pPrim br g q.1).2.2.2 e) else (pPrim br g q.1).2.2.2 e)
  cases q.2 with
  | false => rfl
  | true =>
    show (pPrim br g q.1).2.2.2 e = - -((pPrim br g q.1).2.2.2 e)
    apply Int32.toBitVec_inj.mp
    simp
theorem pSgn_prim {br : Nat → pR} {p : Nat} (c : g p ≠ 45) : (pSgn br g p).1 = (pPrim br g p).1 ∧ (pSgn br g p).2.1 = (pPrim br g p).2.1 ∧ (pSgn br g p).2.2.2 = (pPrim br g p).2.2.2 := by
  have e1 : pMin g 40 p = (p, false) := by
    show (if g p = 45 then _ else _) = _
    rw [if_neg c]
  unfold pSgn
  rw [e1]
  exact ⟨rfl, rfl, rfl⟩
theorem m_part {rec : Nat → Int32 → zM → Option (Int32 × zM)} {v d : Nat} {M : zM} {p : Nat} (hg : GS g S) (hd : d + v = 4) (hr : ∀ w, v = w + 1 → ∀ M, MSt g S L a e M (p + 1) true → wpO (rec 0 (nI (d + 1)) M) (MPost g S L a e M (pCmp (pBr g w) g (p + 1)))) (hm : ∀ M, MSt g S L a e M (p + 1) true → wpO (rec 3 (nI d) M) (MPost g S L a e M (pSgn (pBr g v) g (p + 1)))) (h : MSt g S L a e M p true) : wpO (fX12_part rec (nI d) M) (MPost g S L a e M (pSgn (pBr g v) g p)) := by
  unfold fX12_part
  by_cases c : g p = 45
  · obtain ⟨q1, q2, q3⟩ := pSgn_minus (br := pBr g v) hg c e
    refine m_passY hg h c (by decide) (fun N f1 h1 => wpO_pk (wpO_fk (by decide) (wpO_bk (wpO_mono (hm N h1) ?_))))
    rintro ⟨y, N2⟩ ⟨f2, h2, hy⟩
    refine wpO_pk (wpO_ret ⟨f1.trans f2, ?_, fun z => ?_⟩)
    · rw [q1, q2]; exact h2
    · rw [q1] at z
      rw [q3, ← hy z]
  · obtain ⟨q1, q2, q3⟩ := pSgn_prim (br := pBr g v) c
    have post : ∀ q, MPost g S L a e M (pPrim (pBr g v) g p) q → MPost g S L a e M (pSgn (pBr g v) g p) q := fun q hq => ⟨hq.1, by rw [q1, q2]; exact hq.2.1, fun z => by rw [q3]; rw [q1] at z; exact hq.2.2 z⟩
    refine m_passN hg h c (wpO_pk (wpO_tk rfl (wpO_fk (by rw [m_fine1 h]; decide) (wpO_ek (m_here hg h) (wpO_mono ?_ post)))))
    simp only [zj]
    have J : g p ≠ 40 ∨ v = 0 → wpO (if fX12_in (g p) 48 57 = 0 then (if fX12_letterOf (g p) = -1 then zlet (fX12_fault (M.1 36 16) M) fun M97 => some (0, M97) else zlet (zSI M 36 16 (M.1 36 16 + 1)) fun M109 => if M109.1 36 22 = 0 then some (0, M109) else if zin (fX12_letterOf (g p)) 6 then some (M109.1 46 (fX12_letterOf (g p)).toNatClampNeg, M109) else none) else (fX12_number 3 M).bind fun (q : Int32 × zM) => zp q fun r12 M80 => some (r12, M80)) (MPost g S L a e M (pPrim (pBr g v) g p)) := by
      intro hv
      by_cases c0 : g p = 40
      · have v0 : v = 0 := hv.resolve_left (fun z => z c0)
        subst v0
        have ep : pPrim (pBr g 0) g p = (false, p, [], fun _ => 0) := by unfold pPrim; rw [if_pos c0]; rfl
        rw [ep]
        exact wpO_tk (by rw [c0]; decide) (wpO_tk (by rw [c0]; decide) (m_flt h (fun N f1 h1 => wpO_ret ⟨f1, h1, fun z => by cases z⟩)))
      · cases c1 : isDg (g p) with
        | true =>
          have ep : pPrim (pBr g v) g p = (true, (pNum g p).1, [(pNum g p).2], fun _ => (pNum g p).2) := by unfold pPrim; rw [if_neg c0, if_pos c1]
          rw [ep]
          refine wpO_fk (by rw [in_dg, c1]; decide) (wpO_bk (wpO_mono (m_num hg h c1) ?_))
          rintro ⟨y, N⟩ ⟨f1, h1, hy⟩
          exact wpO_pk (wpO_ret ⟨f1, h1, fun _ => hy⟩)
        | false =>
          refine wpO_tk ((in_dg _).mpr c1) ?_
          rcases letter_cases (g p) with q | ⟨k, hk, q⟩
          · have ep : pPrim (pBr g v) g p = (false, p, [], fun _ => 0) := by unfold pPrim; rw [if_neg c0, if_neg (by rw [c1]; decide), if_pos q]
            rw [ep]
            exact wpO_tk q (m_flt h (fun N f1 h1 => wpO_ret ⟨f1, h1, fun z => by cases z⟩))
          · have qn : ¬ fX12_letterOf (g p) = -1 := by rw [q]; exact fun z => nI_ne_m1 (show k < 2 ^ 31 by omega) z.symm
            have ep : pPrim (pBr g v) g p = (true, p + 1, [1000 + fX12_letterOf (g p)], fun e => e (fX12_letterOf (g p)).toNatClampNeg) := by unfold pPrim; rw [if_neg c0, if_neg (by rw [c1]; decide), if_neg qn]
            rw [ep]
            have hl : p < S := hg.lt (fun z => by
              rw [z] at q
              exact nI_ne_m1 (show k < 2 ^ 31 by omega) q)
            refine wpO_fk qn (m_adv h hl (fun N f1 h1 => ?_))
            rcases h1.2.2.1 with ⟨b1, b2⟩ | ⟨b1, b2⟩
            · refine wpO_tk b1 (wpO_ret ⟨f1, h1, fun _ => ?_⟩)
              show 0 = e (fX12_letterOf (g p)).toNatClampNeg
              rw [q, nI_clamp (by omega), b2 k hk]
            · refine wpO_fk b1 (wpO_tk (by rw [q]; exact zinT hk (by omega)) (wpO_ret ⟨f1, h1, fun _ => ?_⟩))
              show N.1 46 (fX12_letterOf (g p)).toNatClampNeg = e (fX12_letterOf (g p)).toNatClampNeg
              rw [q, nI_clamp (by omega), b2 k hk]
    by_cases c0 : g p = 40
    · refine wpO_tk c0 ?_
      cases v with
      | zero => exact wpO_tk (show 4 ≤ nI d from leT (a := 4) (by omega) (by omega)) (J (Or.inr rfl))
      | succ w =>
        have ep : pPrim (pBr g (w + 1)) g p = pCls g (pCmp (pBr g w) g (p + 1)) := by unfold pPrim; rw [if_pos c0]; rfl
        rw [ep]
        refine wpO_fk (show ¬ 4 ≤ nI d from leF (a := 4) (by omega) (by omega)) (m_adv h (hg.lt (by rw [c0]; decide)) (fun N f1 h1 => ?_))
        rw [nI_1]
        refine wpO_bk (wpO_mono (hr w rfl N h1) ?_)
        generalize pCmp (pBr g w) g (p + 1) = r
        rintro ⟨y, N2⟩ ⟨f2, h2, hy⟩
        dsimp only at f2 h2 hy
        refine wpO_pk (wpO_bk ?_)
        unfold fX12_need
        have ep2 : pCls g r = if r.1 = true ∧ g r.2.1 = 41 then (true, r.2.1 + 1, r.2.2.1, r.2.2.2) else (false, r.2.1, r.2.2.1, r.2.2.2) := rfl
        cases c2 : r.1 with
        | false =>
          rw [if_neg (fun z => by rw [c2] at z; cases z.1)] at ep2
          rw [c2] at h2
          refine m_pass0 h2 (wpO_pk (wpO_tk rfl (wpO_lk (wpO_ret (wpO_ret ?_)))))
          have ef : fX12_fault (N2.1 36 16) N2 = N2 := by unfold fX12_fault; rw [if_pos (m_fine0 h2)]
          rw [ef, ep2]
          exact ⟨f1.trans f2, h2, fun z => by cases z⟩
        | true =>
          rw [c2] at h2
          by_cases o : g r.2.1 = 41
          · rw [if_pos ⟨c2, o⟩] at ep2
            rw [ep2]
            exact m_passY hg h2 o (by decide) (fun N3 f3 h3 => wpO_pk (wpO_fk (by decide) (wpO_ret (wpO_ret ⟨(f1.trans f2).trans f3, h3, fun _ => hy c2⟩))))
          · rw [if_neg (fun z => o z.2)] at ep2
            rw [ep2]
            exact m_passN hg h2 o (wpO_pk (wpO_tk rfl (m_flt h2 (fun N3 f3 h3 => wpO_ret (wpO_ret ⟨(f1.trans f2).trans f3, h3, fun z => by cases z⟩)))))
    · exact wpO_fk c0 (J (Or.inl c0))
theorem m_held {rec : Nat → Int32 → zM → Option (Int32 × zM)} {d : Int32} {br : Nat → pR} {M : zM} {p : Nat} (hg : GS g S) (hb : ∀ q, q < S → pOk S q (br q)) (hr : ∀ M q, p ≤ q → MSt g S L a e M q true → wpO (rec 1 d M) (MPost g S L a e M (pSum br g q))) (h : MSt g S L a e M p true) : wpO (fX12_held rec d M) (MPost g S L a e M (pCmp br g p)) := by
  unfold fX12_held
  refine wpO_bk (wpO_mono (hr M p (Nat.le_refl p) h) ?_)
  have hs1 := pSum_ok hg h.2.2.2.1 hb
  have ep : pCmp br g p = if (pSum br g p).1 = true ∧ isCmp (g (pSum br g p).2.1) = true then pCmJ g (pSum br g p) (pSum br g ((pSum br g p).2.1 + 1)) else pSum br g p := rfl
  generalize pSum br g p = r at hs1 ep ⊢
  generalize pCmp br g p = R at ep ⊢
  rintro ⟨x, N⟩ ⟨f1, h1, hx⟩
  dsimp only at f1 h1 hx
  refine wpO_pk ?_
  cases c : r.1 with
  | false =>
    rw [if_neg (fun z => by rw [c] at z; cases z.1)] at ep
    subst ep
    have h1' := h1
    rw [c] at h1'
    exact m_pass0 h1' (wpO_pk (wpO_tk rfl (m_pass0 h1' (wpO_pk (wpO_tk rfl (m_pass0 h1' (wpO_pk (wpO_tk rfl (wpO_ret ⟨f1, h1, hx⟩)))))))))
  | true =>
    have h1' := h1
    rw [c] at h1'
    have sec : ∀ o, g r.2.1 = o → isCmp o = true → R = pCmJ g r (pSum br g (r.2.1 + 1)) ∧ r.2.1 < S := fun o ho hc => by
      rw [if_pos ⟨c, by rw [ho]; exact hc⟩] at ep
      exact ⟨ep, hg.lt (fun z => by rw [← ho, z] at hc; exact absurd hc (by decide))⟩
    by_cases o1 : g r.2.1 = 60
    · obtain ⟨eR, hl⟩ := sec 60 o1 (by decide)
      subst eR
      refine m_passY hg h1' o1 (by decide) (fun N2 f2 h2 => wpO_pk (wpO_fk (by decide) (wpO_bk (wpO_mono (hr N2 (r.2.1 + 1) (by have := hs1.1; omega) h2) ?_))))
      generalize pSum br g (r.2.1 + 1) = s
      rintro ⟨y, N3⟩ ⟨f3, h3, hy⟩
      dsimp only at f3 h3 hy
      refine wpO_pk ?_
      have fin : ∀ w, w = jn 60 x y → MPost g S L a e M (pCmJ g r s) (w, N3) := fun w hw => ⟨(f1.trans f2).trans f3, h3, fun z => by
        show w = jn (g r.2.1) (r.2.2.2 e) (s.2.2.2 e)
        rw [hw, hx c, hy z, o1]⟩
      by_cases q : y ≤ x
      · exact wpO_tk q (wpO_ret (fin 0 (by show 0 = if y ≤ x then 0 else 1; rw [if_pos q])))
      · exact wpO_fk q (wpO_ret (fin 1 (by show 1 = if y ≤ x then 0 else 1; rw [if_neg q])))
    · refine m_passN hg h1' o1 (wpO_pk (wpO_tk rfl ?_))
      by_cases o2 : g r.2.1 = 62
      · obtain ⟨eR, hl⟩ := sec 62 o2 (by decide)
        subst eR
        refine m_passY hg h1' o2 (by decide) (fun N2 f2 h2 => wpO_pk (wpO_fk (by decide) (wpO_bk (wpO_mono (hr N2 (r.2.1 + 1) (by have := hs1.1; omega) h2) ?_))))
        generalize pSum br g (r.2.1 + 1) = s
        rintro ⟨y, N3⟩ ⟨f3, h3, hy⟩
        dsimp only at f3 h3 hy
        refine wpO_pk ?_
        have fin : ∀ w, w = jn 62 x y → MPost g S L a e M (pCmJ g r s) (w, N3) := fun w hw => ⟨(f1.trans f2).trans f3, h3, fun z => by
          show w = jn (g r.2.1) (r.2.2.2 e) (s.2.2.2 e)
          rw [hw, hx c, hy z, o2]⟩
        by_cases q : x ≤ y
        · exact wpO_tk q (wpO_ret (fin 0 (by show 0 = if x ≤ y then 0 else 1; rw [if_pos q])))
        · exact wpO_fk q (wpO_ret (fin 1 (by show 1 = if x ≤ y then 0 else 1; rw [if_neg q])))
      · refine m_passN hg h1' o2 (wpO_pk (wpO_tk rfl ?_))
        by_cases o3 : g r.2.1 = 61
        · obtain ⟨eR, hl⟩ := sec 61 o3 (by decide)
          subst eR
          refine m_passY hg h1' o3 (by decide) (fun N2 f2 h2 => wpO_pk (wpO_fk (by decide) (wpO_bk (wpO_mono (hr N2 (r.2.1 + 1) (by have := hs1.1; omega) h2) ?_))))
          generalize pSum br g (r.2.1 + 1) = s
          rintro ⟨y, N3⟩ ⟨f3, h3, hy⟩
          dsimp only at f3 h3 hy
          refine wpO_pk ?_
          have fin : ∀ w, w = jn 61 x y → MPost g S L a e M (pCmJ g r s) (w, N3) := fun w hw => ⟨(f1.trans f2).trans f3, h3, fun z => by
            show w = jn (g r.2.1) (r.2.2.2 e) (s.2.2.2 e)
            rw [hw, hx c, hy z, o3]⟩
          by_cases q : x = y
          · exact wpO_tk q (wpO_ret (fin 1 (by show 1 = if x = y then 1 else 0; rw [if_pos q])))
          · exact wpO_fk q (wpO_ret (fin 0 (by show 0 = if x = y then 1 else 0; rw [if_neg q])))
        · rw [if_neg (fun z => by
            have z := z.2
            unfold isCmp at z
            simp [o1, o2, o3] at z)] at ep
          subst ep
          exact m_passN hg h1' o3 (wpO_pk (wpO_tk rfl (wpO_ret ⟨f1, h1, hx⟩)))
theorem m_grp (hg : GS g S) : ∀ n v d p M, d + v = 4 → MSt g S L a e M p true →
    (4 * v + 42 ≤ n + p → wpO (fX12_grp n 3 (nI d) M) (MPost g S L a e M (pSgn (pBr g v) g p))) ∧
    (4 * v + 43 ≤ n + p → wpO (fX12_grp n 2 (nI d) M) (MPost g S L a e M (pPrd (pBr g v) g p))) ∧
    (4 * v + 44 ≤ n + p → wpO (fX12_grp n 1 (nI d) M) (MPost g S L a e M (pSum (pBr g v) g p))) ∧
    (4 * v + 45 ≤ n + p → wpO (fX12_grp n 0 (nI d) M) (MPost g S L a e M (pCmp (pBr g v) g p))) := by
  intro n
  induction n with
  | zero =>
    intro v d p M hd h
    have h1 := h.2.2.2.1
    have h2 := hg.1
    exact ⟨fun z => by omega, fun z => by omega, fun z => by omega, fun z => by omega⟩
  | succ n ih =>
    intro v d p M hd h
    refine ⟨fun z => ?_, fun z => ?_, fun z => ?_, fun z => ?_⟩
    · rw [fX12_grp.eq_2]
      simp only [show ¬ (3 : Nat) = 0 by omega, show ¬ (3 : Nat) = 1 by omega, show ¬ (3 : Nat) = 2 by omega, if_false, if_true]
      exact m_part hg hd (fun w hw M h => (ih w (d + 1) (p + 1) M (by omega) h).2.2.2 (by omega)) (fun M h => (ih v d (p + 1) M hd h).1 (by omega)) h
    · rw [fX12_grp.eq_2]
      simp only [show ¬ (2 : Nat) = 0 by omega, show ¬ (2 : Nat) = 1 by omega, if_false, if_true]
      exact m_product hg (fun q hq => pSgn_ok hg hq (pBr_ok hg v)) (fun M q hq h => (ih v d q M hd h).1 (by omega)) h
    · rw [fX12_grp.eq_2]
      simp only [show ¬ (1 : Nat) = 0 by omega, if_false, if_true]
      exact m_sum hg (fun q hq => pPrd_ok hg hq (pBr_ok hg v)) (fun M q hq h => (ih v d q M hd h).2.1 (by omega)) h
    · rw [fX12_grp.eq_2]
      simp only [if_true]
      exact m_held hg (pBr_ok hg v) (fun M q hq h => (ih v d q M hd h).2.2.1 (by omega)) h
theorem m_all {M : zM} (hg : GS g S) (h : MSt g S L a e M 0 true) : wpO (fX12_grp 100 0 0 M) (MPost g S L a e M (pAll g)) := (m_grp hg 100 4 0 0 M rfl h).2.2.2 (by omega)
end MP
