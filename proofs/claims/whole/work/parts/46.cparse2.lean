/-! the component reads a rule: rows, sums, comparisons -/
section CP2
variable {g : Nat → Int32} {S L : Nat}
theorem c_lpP {rec : Nat → Int32 → zM → Option (Int32 × zM)} {d : Int32} {sub : Nat → pR} {l : List Int32} (hg : GS g S) (hs : ∀ q, q ≤ S → pOk S q (sub q)) (hr : ∀ M p l, CSt g S L M p l → wpO (rec 3 d M) (CPost g S L M l (sub p))) : ∀ k i n r M, i + k = 40 → k < n → CSt g S L M r.2.1 (l ++ r.2.2.1) → wpO (fX5_readProduct_L8 rec d n (bI r.1) (nI i) M) (CPost g S L M l (pLp isMul sub g k r)) := by
  intro k
  induction k with
  | zero =>
    intro i n r M hi hn h
    obtain ⟨n, rfl⟩ : ∃ m, n = m + 1 := ⟨n - 1, by omega⟩
    have : i = 40 := by omega
    subst this
    rw [fX5_readProduct_L8.eq_2]
    exact wpO_tk (show 40 ≤ nI 40 from leT (a := 40) (Nat.le_refl 40) (by omega)) (wpO_ret ⟨rfl, FrP.refl M, h⟩)
  | succ k ih =>
    intro i n r M hi hn h
    obtain ⟨n, rfl⟩ : ∃ m, n = m + 1 := ⟨n - 1, by omega⟩
    rw [fX5_readProduct_L8.eq_2]
    refine wpO_fk (show ¬ 40 ≤ nI i from leF (a := 40) (by omega) (by omega)) ?_
    cases c : r.1 with
    | false =>
      rw [show pLp isMul sub g (k + 1) r = r by unfold pLp; rw [if_neg (fun z => by rw [c] at z; cases z.1)]]
      exact wpO_tk rfl (wpO_ret ⟨by show bI false = bI r.1; rw [c], FrP.refl M, h⟩)
    | true =>
      refine wpO_fk (by decide) ?_
      rw [c_seen hg h]
      simp only [Option.bind_some, zj]
      by_cases o : isMul (g r.2.1) = true
      · rw [show pLp isMul sub g (k + 1) r = pLp isMul sub g k (pJoin g r (sub (r.2.1 + 1))) by rw [pLp]; rw [if_pos ⟨c, o⟩]]
        have hlt : r.2.1 < S := hg.lt (fun z => by rw [z] at o; exact absurd o (by decide))
        have go : wpO (zlet (zSI M 21 3 (M.1 21 3 + 1)) fun M49 => (rec 3 d M49).bind fun (q : Int32 × zM) => zp q fun r6 M54 => (fX4_add 17 (2000 + g r.2.1) M54).bind fun M68 => fX5_readProduct_L8 rec d n r6 (nI i + 1) M68) (CPost g S L M l (pLp isMul sub g k (pJoin g r (sub (r.2.1 + 1))))) := by
          refine c_adv h hlt (fun N f1 h1 => wpO_bk (wpO_mono (hr N (r.2.1 + 1) _ h1) ?_))
          have hsb := hs (r.2.1 + 1) hlt
          have hll := h.2.2.1
          rintro ⟨a, N2⟩ ⟨e2, f2, h2⟩
          dsimp only at e2 f2 h2
          obtain ⟨t1, t2, t3, -⟩ := hsb
          refine wpO_pk (c_add hg h2 (by rw [List.length_append]; omega) (fun N3 f3 h3 => ?_))
          rw [e2, nI_1]
          have h3' : CSt g S L N3 (pJoin g r (sub (r.2.1 + 1))).2.1 (l ++ (pJoin g r (sub (r.2.1 + 1))).2.2.1) := by
            show CSt g S L N3 (sub (r.2.1 + 1)).2.1 (l ++ (r.2.2.1 ++ (sub (r.2.1 + 1)).2.2.1 ++ [2000 + g r.2.1]))
            rw [← List.append_assoc, ← List.append_assoc]
            exact h3
          exact wpO_mono (ih (i + 1) n (pJoin g r (sub (r.2.1 + 1))) N3 (by omega) (by omega) h3') (fun q hq => ⟨hq.1, ((f1.trans f2).trans f3).trans hq.2.1, hq.2.2⟩)
        by_cases o1 : g r.2.1 = 42
        · exact wpO_tk o1 go
        · refine wpO_fk o1 (wpO_tk ?_ go)
          unfold isMul at o
          simpa [o1] using o
      · rw [show pLp isMul sub g (k + 1) r = r by unfold pLp; rw [if_neg (fun z => o z.2)]]
        have o1 : ¬ g r.2.1 = 42 := fun z => o (by rw [z]; decide)
        have o2 : ¬ g r.2.1 = 47 := fun z => o (by rw [z]; decide)
        exact wpO_fk o1 (wpO_fk o2 (wpO_ret ⟨by show bI true = bI r.1; rw [c], FrP.refl M, h⟩))
theorem c_Product {rec : Nat → Int32 → zM → Option (Int32 × zM)} {d : Int32} {sub : Nat → pR} {M : zM} {p : Nat} {l : List Int32} (hg : GS g S) (hs : ∀ q, q ≤ S → pOk S q (sub q)) (hr : ∀ M p l, CSt g S L M p l → wpO (rec 3 d M) (CPost g S L M l (sub p))) (h : CSt g S L M p l) : wpO (fX5_readProduct rec d M) (CPost g S L M l (pLp isMul sub g 40 (sub p))) := by
  unfold fX5_readProduct
  refine wpO_bk (wpO_mono (hr M p l h) ?_)
  rintro ⟨a, N⟩ ⟨e1, f1, h1⟩
  dsimp only at e1 f1 h1
  subst e1
  refine wpO_pk (wpO_bk (wpO_mono (c_lpP hg hs hr 40 0 4000 (sub p) N (by omega) (by omega) h1) ?_))
  rintro ⟨b, N2⟩ ⟨e2, f2, h2⟩
  dsimp only at e2 f2 h2
  subst e2
  exact wpO_pk (wpO_tk (by cases (pLp isMul sub g 40 (sub p)).1 <;> decide) (wpO_ret ⟨rfl, f1.trans f2, h2⟩))
theorem c_lpS {rec : Nat → Int32 → zM → Option (Int32 × zM)} {d : Int32} {sub : Nat → pR} {l : List Int32} (hg : GS g S) (hs : ∀ q, q ≤ S → pOk S q (sub q)) (hr : ∀ M p l, CSt g S L M p l → wpO (rec 2 d M) (CPost g S L M l (sub p))) : ∀ k i n r M, i + k = 40 → k < n → CSt g S L M r.2.1 (l ++ r.2.2.1) → wpO (fX5_readSum_L8 rec d n (bI r.1) (nI i) M) (CPost g S L M l (pLp isAdd sub g k r)) := by
  intro k
  induction k with
  | zero =>
    intro i n r M hi hn h
    obtain ⟨n, rfl⟩ : ∃ m, n = m + 1 := ⟨n - 1, by omega⟩
    have : i = 40 := by omega
    subst this
    rw [fX5_readSum_L8.eq_2]
    exact wpO_tk (show 40 ≤ nI 40 from leT (a := 40) (Nat.le_refl 40) (by omega)) (wpO_ret ⟨rfl, FrP.refl M, h⟩)
  | succ k ih =>
    intro i n r M hi hn h
    obtain ⟨n, rfl⟩ : ∃ m, n = m + 1 := ⟨n - 1, by omega⟩
    rw [fX5_readSum_L8.eq_2]
    refine wpO_fk (show ¬ 40 ≤ nI i from leF (a := 40) (by omega) (by omega)) ?_
    cases c : r.1 with
    | false =>
      rw [show pLp isAdd sub g (k + 1) r = r by unfold pLp; rw [if_neg (fun z => by rw [c] at z; cases z.1)]]
      exact wpO_tk rfl (wpO_ret ⟨by show bI false = bI r.1; rw [c], FrP.refl M, h⟩)
    | true =>
      refine wpO_fk (by decide) ?_
      rw [c_seen hg h]
      simp only [Option.bind_some, zj]
      by_cases o : isAdd (g r.2.1) = true
      · rw [show pLp isAdd sub g (k + 1) r = pLp isAdd sub g k (pJoin g r (sub (r.2.1 + 1))) by rw [pLp]; rw [if_pos ⟨c, o⟩]]
        have hlt : r.2.1 < S := hg.lt (fun z => by rw [z] at o; exact absurd o (by decide))
        have go : wpO (zlet (zSI M 21 3 (M.1 21 3 + 1)) fun M49 => (rec 2 d M49).bind fun (q : Int32 × zM) => zp q fun r6 M54 => (fX4_add 17 (2000 + g r.2.1) M54).bind fun M68 => fX5_readSum_L8 rec d n r6 (nI i + 1) M68) (CPost g S L M l (pLp isAdd sub g k (pJoin g r (sub (r.2.1 + 1))))) := by
          refine c_adv h hlt (fun N f1 h1 => wpO_bk (wpO_mono (hr N (r.2.1 + 1) _ h1) ?_))
          have hsb := hs (r.2.1 + 1) hlt
          have hll := h.2.2.1
          rintro ⟨a, N2⟩ ⟨e2, f2, h2⟩
          dsimp only at e2 f2 h2
          obtain ⟨t1, t2, t3, -⟩ := hsb
          refine wpO_pk (c_add hg h2 (by rw [List.length_append]; omega) (fun N3 f3 h3 => ?_))
          rw [e2, nI_1]
          have h3' : CSt g S L N3 (pJoin g r (sub (r.2.1 + 1))).2.1 (l ++ (pJoin g r (sub (r.2.1 + 1))).2.2.1) := by
            show CSt g S L N3 (sub (r.2.1 + 1)).2.1 (l ++ (r.2.2.1 ++ (sub (r.2.1 + 1)).2.2.1 ++ [2000 + g r.2.1]))
            rw [← List.append_assoc, ← List.append_assoc]
            exact h3
          exact wpO_mono (ih (i + 1) n (pJoin g r (sub (r.2.1 + 1))) N3 (by omega) (by omega) h3') (fun q hq => ⟨hq.1, ((f1.trans f2).trans f3).trans hq.2.1, hq.2.2⟩)
        by_cases o1 : g r.2.1 = 43
        · exact wpO_tk o1 go
        · refine wpO_fk o1 (wpO_tk ?_ go)
          unfold isAdd at o
          simpa [o1] using o
      · rw [show pLp isAdd sub g (k + 1) r = r by unfold pLp; rw [if_neg (fun z => o z.2)]]
        have o1 : ¬ g r.2.1 = 43 := fun z => o (by rw [z]; decide)
        have o2 : ¬ g r.2.1 = 45 := fun z => o (by rw [z]; decide)
        exact wpO_fk o1 (wpO_fk o2 (wpO_ret ⟨by show bI true = bI r.1; rw [c], FrP.refl M, h⟩))
theorem c_Sum {rec : Nat → Int32 → zM → Option (Int32 × zM)} {d : Int32} {sub : Nat → pR} {M : zM} {p : Nat} {l : List Int32} (hg : GS g S) (hs : ∀ q, q ≤ S → pOk S q (sub q)) (hr : ∀ M p l, CSt g S L M p l → wpO (rec 2 d M) (CPost g S L M l (sub p))) (h : CSt g S L M p l) : wpO (fX5_readSum rec d M) (CPost g S L M l (pLp isAdd sub g 40 (sub p))) := by
  unfold fX5_readSum
  refine wpO_bk (wpO_mono (hr M p l h) ?_)
  rintro ⟨a, N⟩ ⟨e1, f1, h1⟩
  dsimp only at e1 f1 h1
  subst e1
  refine wpO_pk (wpO_bk (wpO_mono (c_lpS hg hs hr 40 0 4000 (sub p) N (by omega) (by omega) h1) ?_))
  rintro ⟨b, N2⟩ ⟨e2, f2, h2⟩
  dsimp only at e2 f2 h2
  subst e2
  exact wpO_pk (wpO_tk (by cases (pLp isAdd sub g 40 (sub p)).1 <;> decide) (wpO_ret ⟨rfl, f1.trans f2, h2⟩))
theorem c_cmp {rec : Nat → Int32 → zM → Option (Int32 × zM)} {d : Int32} {br : Nat → pR} {M : zM} {p : Nat} {l : List Int32} (hg : GS g S) (hb : ∀ q, q < S → pOk S q (br q)) (hr : ∀ M p l, CSt g S L M p l → wpO (rec 1 d M) (CPost g S L M l (pSum br g p))) (h : CSt g S L M p l) : wpO (fX5_readComparison rec d M) (CPost g S L M l (pCmp br g p)) := by
  unfold fX5_readComparison
  refine wpO_bk (wpO_mono (hr M p l h) ?_)
  have hs1 := pSum_ok hg h.2.2.2.1 hb
  have ep : pCmp br g p = if (pSum br g p).1 = true ∧ isCmp (g (pSum br g p).2.1) = true then pCmJ g (pSum br g p) (pSum br g ((pSum br g p).2.1 + 1)) else pSum br g p := rfl
  generalize pSum br g p = r at hs1 ep ⊢
  generalize pCmp br g p = R at ep ⊢
  rintro ⟨a, N⟩ ⟨e1, f1, h1⟩
  dsimp only at e1 f1 h1
  subst e1
  refine wpO_pk ?_
  cases c : r.1 with
  | false =>
    rw [if_neg (fun z => by rw [c] at z; cases z.1)] at ep
    subst ep
    exact wpO_tk rfl (wpO_ret ⟨by show (0 : Int32) = bI R.1; rw [c]; rfl, f1, h1⟩)
  | true =>
    refine wpO_fk (by decide) (wpO_ek (c_seen hg h1) ?_)
    simp only [zj]
    by_cases o : isCmp (g r.2.1) = true
    · rw [if_pos ⟨c, o⟩] at ep
      subst ep
      have hlt : r.2.1 < S := hg.lt (fun z => by rw [z] at o; exact absurd o (by decide))
      have go : wpO (zlet (zSI N 21 3 (N.1 21 3 + 1)) fun M42 => (rec 1 d M42).bind fun (q : Int32 × zM) => zp q fun r4 M47 => if r4 = 0 then some (0, M47) else (fX4_add 17 (2000 + g r.2.1) M47).bind fun M64 => some (1, M64)) (CPost g S L M l (pCmJ g r (pSum br g (r.2.1 + 1)))) := by
        refine c_adv h1 hlt (fun N2 f2 h2 => wpO_bk (wpO_mono (hr N2 (r.2.1 + 1) _ h2) ?_))
        have hs2 := pSum_ok (p := r.2.1 + 1) hg hlt hb
        generalize pSum br g (r.2.1 + 1) = s at hs2 ⊢
        have hll := h1.2.2.1
        rintro ⟨b, N3⟩ ⟨e3, f3, h3⟩
        dsimp only at e3 f3 h3
        subst e3
        obtain ⟨t1, t2, t3, -⟩ := hs2
        refine wpO_pk ?_
        cases c2 : s.1 with
        | false =>
          refine wpO_tk rfl (wpO_ret ⟨by show (0 : Int32) = bI s.1; rw [c2]; rfl, (f1.trans f2).trans f3, ?_⟩)
          show CSt g S L N3 s.2.1 (l ++ (if s.1 = true then r.2.2.1 ++ s.2.2.1 ++ [2000 + g r.2.1] else r.2.2.1 ++ s.2.2.1))
          rw [if_neg (by rw [c2]; decide), ← List.append_assoc]
          exact h3
        | true =>
          refine wpO_fk (by decide) (c_add hg h3 (by rw [List.length_append]; omega) (fun N4 f4 h4 => wpO_ret ⟨by show (1 : Int32) = bI s.1; rw [c2]; rfl, ((f1.trans f2).trans f3).trans f4, ?_⟩))
          show CSt g S L N4 s.2.1 (l ++ (if s.1 = true then r.2.2.1 ++ s.2.2.1 ++ [2000 + g r.2.1] else r.2.2.1 ++ s.2.2.1))
          rw [if_pos c2, ← List.append_assoc, ← List.append_assoc]
          exact h4
      by_cases o1 : g r.2.1 = 60
      · exact wpO_tk o1 go
      · refine wpO_fk o1 ?_
        by_cases o2 : g r.2.1 = 62
        · exact wpO_tk o2 go
        · refine wpO_fk o2 (wpO_tk ?_ go)
          unfold isCmp at o
          simpa [o1, o2] using o
    · rw [if_neg (fun z => o z.2)] at ep
      subst ep
      have o1 : ¬ g R.2.1 = 60 := fun z => o (by rw [z]; decide)
      have o2 : ¬ g R.2.1 = 62 := fun z => o (by rw [z]; decide)
      have o3 : ¬ g R.2.1 = 61 := fun z => o (by rw [z]; decide)
      exact wpO_fk o1 (wpO_fk o2 (wpO_fk o3 (wpO_ret ⟨by show (1 : Int32) = bI R.1; rw [c]; rfl, f1, h1⟩)))
theorem c_br {rec : Nat → Int32 → zM → Option (Int32 × zM)} {v d : Nat} {M : zM} {p : Nat} {l : List Int32} (hg : GS g S) (hd : d + v = 4) (hr : ∀ w, v = w + 1 → ∀ M p l, CSt g S L M p l → wpO (rec 0 (nI (d + 1)) M) (CPost g S L M l (pCmp (pBr g w) g p))) (h : CSt g S L M p l) (h40 : g p = 40) : wpO (fX5_readInBrackets rec (nI d) M) (CPost g S L M l (pBr g v p)) := by
  unfold fX5_readInBrackets
  have hlt : p < S := hg.lt (fun z => by rw [z] at h40; exact absurd h40 (by decide))
  cases v with
  | zero =>
    refine wpO_fk (show ¬ nI d < 4 from ltF (b := 4) (by omega) (by omega)) (wpO_ret ⟨rfl, FrP.refl M, ?_⟩)
    show CSt g S L M p (l ++ [])
    rw [List.append_nil]
    exact h
  | succ w =>
    refine wpO_tk (show nI d < 4 from ltT (b := 4) (by omega) (by omega)) (c_adv h hlt (fun N f1 h1 => ?_))
    rw [nI_1]
    refine wpO_bk (wpO_mono (hr w rfl N (p + 1) l h1) ?_)
    show ∀ r, CPost g S L N l (pCmp (pBr g w) g (p + 1)) r → wpO _ (CPost g S L M l (pCls g (pCmp (pBr g w) g (p + 1))))
    generalize pCmp (pBr g w) g (p + 1) = r
    rintro ⟨a, N2⟩ ⟨e2, f2, h2⟩
    dsimp only at e2 f2 h2
    subst e2
    refine wpO_pk ?_
    have ep : pCls g r = if r.1 = true ∧ g r.2.1 = 41 then (true, r.2.1 + 1, r.2.2.1, r.2.2.2) else (false, r.2.1, r.2.2.1, r.2.2.2) := rfl
    cases c : r.1 with
    | false =>
      rw [if_neg (fun z => by rw [c] at z; cases z.1)] at ep
      rw [ep]
      exact wpO_tk rfl (wpO_ret ⟨rfl, f1.trans f2, h2⟩)
    | true =>
      refine wpO_fk (by decide) (wpO_ek (c_seen hg h2) ?_)
      by_cases o : g r.2.1 = 41
      · rw [if_pos ⟨c, o⟩] at ep
        rw [ep]
        exact wpO_tk o (c_adv h2 (hg.lt (fun z => by rw [z] at o; exact absurd o (by decide))) (fun N3 f3 h3 => wpO_ret ⟨rfl, (f1.trans f2).trans f3, h3⟩))
      · rw [if_neg (fun z => o z.2)] at ep
        rw [ep]
        exact wpO_fk o (wpO_ret ⟨rfl, f1.trans f2, h2⟩)
/-- all of them, v levels of brackets left -/
theorem c_grp (hg : GS g S) : ∀ v d n, d + v = 4 → 5 * v + 5 ≤ n → ∀ M p l, CSt g S L M p l → wpO (fX5_grp n 0 (nI d) M) (CPost g S L M l (pCmp (pBr g v) g p)) := by
  intro v
  induction v with
  | zero =>
    intro d n hd hn
    obtain ⟨n, rfl⟩ : ∃ m, n = m + 5 := ⟨n - 5, by omega⟩
    have b4 : ∀ M p l, CSt g S L M p l → g p = 40 → wpO (fX5_grp (n + 1) 4 (nI d) M) (CPost g S L M l (pBr g 0 p)) := fun M p l h h40 => by
      rw [fX5_grp.eq_2]
      simp only [show ¬ (4 : Nat) = 0 by omega, show ¬ (4 : Nat) = 1 by omega, show ¬ (4 : Nat) = 2 by omega, show ¬ (4 : Nat) = 3 by omega, if_false, if_true]
      exact c_br hg hd (fun w hw => by omega) h h40
    have b3 : ∀ M p l, CSt g S L M p l → wpO (fX5_grp (n + 2) 3 (nI d) M) (CPost g S L M l (pSgn (pBr g 0) g p)) := fun M p l h => by
      rw [fX5_grp.eq_2]
      simp only [show ¬ (3 : Nat) = 0 by omega, show ¬ (3 : Nat) = 1 by omega, show ¬ (3 : Nat) = 2 by omega, if_false, if_true]
      exact c_signed hg (pBr_ok hg 0) b4 h
    have b2 : ∀ M p l, CSt g S L M p l → wpO (fX5_grp (n + 3) 2 (nI d) M) (CPost g S L M l (pPrd (pBr g 0) g p)) := fun M p l h => by
      rw [fX5_grp.eq_2]
      simp only [show ¬ (2 : Nat) = 0 by omega, show ¬ (2 : Nat) = 1 by omega, if_false, if_true]
      exact c_Product hg (fun q hq => pSgn_ok hg hq (pBr_ok hg 0)) b3 h
    have b1 : ∀ M p l, CSt g S L M p l → wpO (fX5_grp (n + 4) 1 (nI d) M) (CPost g S L M l (pSum (pBr g 0) g p)) := fun M p l h => by
      rw [fX5_grp.eq_2]
      simp only [show ¬ (1 : Nat) = 0 by omega, if_false, if_true]
      exact c_Sum hg (fun q hq => pPrd_ok hg hq (pBr_ok hg 0)) b2 h
    intro M p l h
    rw [fX5_grp.eq_2]
    simp only [if_true]
    exact c_cmp hg (pBr_ok hg 0) b1 h
  | succ v ih =>
    intro d n hd hn
    obtain ⟨n, rfl⟩ : ∃ m, n = m + 5 := ⟨n - 5, by omega⟩
    have b4 : ∀ M p l, CSt g S L M p l → g p = 40 → wpO (fX5_grp (n + 1) 4 (nI d) M) (CPost g S L M l (pBr g (v + 1) p)) := fun M p l h h40 => by
      rw [fX5_grp.eq_2]
      simp only [show ¬ (4 : Nat) = 0 by omega, show ¬ (4 : Nat) = 1 by omega, show ¬ (4 : Nat) = 2 by omega, show ¬ (4 : Nat) = 3 by omega, if_false, if_true]
      refine c_br hg hd (fun w hw => ?_) h h40
      have : w = v := by omega
      subst this
      exact ih (d + 1) n (by omega) (by omega)
    have b3 : ∀ M p l, CSt g S L M p l → wpO (fX5_grp (n + 2) 3 (nI d) M) (CPost g S L M l (pSgn (pBr g (v + 1)) g p)) := fun M p l h => by
      rw [fX5_grp.eq_2]
      simp only [show ¬ (3 : Nat) = 0 by omega, show ¬ (3 : Nat) = 1 by omega, show ¬ (3 : Nat) = 2 by omega, if_false, if_true]
      exact c_signed hg (pBr_ok hg (v + 1)) b4 h
    have b2 : ∀ M p l, CSt g S L M p l → wpO (fX5_grp (n + 3) 2 (nI d) M) (CPost g S L M l (pPrd (pBr g (v + 1)) g p)) := fun M p l h => by
      rw [fX5_grp.eq_2]
      simp only [show ¬ (2 : Nat) = 0 by omega, show ¬ (2 : Nat) = 1 by omega, if_false, if_true]
      exact c_Product hg (fun q hq => pSgn_ok hg hq (pBr_ok hg (v + 1))) b3 h
    have b1 : ∀ M p l, CSt g S L M p l → wpO (fX5_grp (n + 4) 1 (nI d) M) (CPost g S L M l (pSum (pBr g (v + 1)) g p)) := fun M p l h => by
      rw [fX5_grp.eq_2]
      simp only [show ¬ (1 : Nat) = 0 by omega, if_false, if_true]
      exact c_Sum hg (fun q hq => pPrd_ok hg hq (pBr_ok hg (v + 1))) b2 h
    intro M p l h
    rw [fX5_grp.eq_2]
    simp only [if_true]
    exact c_cmp hg (pBr_ok hg (v + 1)) b1 h
end CP2
/-- THE TEXT's signs, the first forty -/
def gT (M : zM) (S : Nat) (j : Nat) : Int32 := if j < S then M.1 2 j else -1
/-- the whole reading: what comes of it -/
theorem c_readAll {M : zM} {L : Nat} (hL : L ≤ 80) (h1 : M.1 1 1 = nI L) (hg : GS (gT M (min L 40)) (min L 40)) : wpO (fX5_readAll M) (fun q => FrP M q.2 ∧ (q.1 = if (pAll (gT M (min L 40))).1 = true ∧ (pAll (gT M (min L 40))).2.1 = L then -1 else nI (pAll (gT M (min L 40))).2.1) ∧ q.2.1 17 3 = nI (pAll (gT M (min L 40))).2.2.1.length ∧ ∀ j x, (pAll (gT M (min L 40))).2.2.1[j]? = some x → q.2.1 18 j = x) := by
  unfold fX5_readAll
  refine wpO_lk (wpO_lk (wpO_lk ?_))
  have e0 : (zSI M 17 3 0).1 1 1 = nI L := by rw [gSI]; simp [h1]
  have em : zmin ((zSI M 17 3 0).1 1 1) 40 = nI (min L 40) := by
    rw [e0]
    exact zmin_nI (b := 40) (by omega) (by omega)
  rw [em]
  have hst : CSt (gT M (min L 40)) (min L 40) L (zSI (zSI (zSI M 17 3 0) 21 2 (nI (min L 40))) 21 3 0) 0 [] := by
    refine ⟨⟨?_, ?_, ?_, ?_⟩, ⟨?_, fun j x hj => by cases hj⟩, Nat.le_refl 0, Nat.zero_le _, by omega, hL⟩
    · rw [gSI, gSI]; simp
    · rw [gSI, if_pos ⟨rfl, rfl⟩]; rfl
    · rw [gSI, gSI, gSI]; simp [h1]
    · intro j hj; rw [gSI, gSI, gSI]; simp [gT, hj]
    · rw [gSI, gSI, gSI]; simp; rfl
  have hf : FrP M (zSI (zSI (zSI M 17 3 0) 21 2 (nI (min L 40))) 21 3 0) := ⟨fun k a b c => by rw [zSI_other _ _ _ c, zSI_other _ _ _ c, zSI_other _ _ _ a], rfl⟩
  have hok := pAll_ok hg
  refine wpO_bk (wpO_mono (c_grp hg 4 0 100 rfl (by omega) _ 0 [] hst) ?_)
  rintro ⟨a, N⟩ ⟨e1, f1, h2⟩
  dsimp only at e1 f1 h2
  have e1 : a = bI (pAll (gT M (min L 40))).1 := e1
  have h2 : CSt (gT M (min L 40)) (min L 40) L N (pAll (gT M (min L 40))).2.1 ([] ++ (pAll (gT M (min L 40))).2.2.1) := h2
  generalize pAll (gT M (min L 40)) = r at e1 h2 hok ⊢
  subst e1
  obtain ⟨⟨a1, a2, a3, a4⟩, ⟨b1, b2⟩, -, hp, -⟩ := h2
  refine wpO_pk ?_
  simp only [zj]
  have hpost : ∀ x, (x = if r.1 = true ∧ r.2.1 = L then -1 else nI r.2.1) → FrP M (x, N).2 ∧ ((x, N).1 = if r.1 = true ∧ r.2.1 = L then -1 else nI r.2.1) ∧ (x, N).2.1 17 3 = nI r.2.2.1.length ∧ ∀ j y, r.2.2.1[j]? = some y → (x, N).2.1 18 j = y := fun x hx => ⟨hf.trans f1, hx, b1, b2⟩
  cases c : r.1 with
  | false =>
    refine wpO_tk rfl (wpO_ret ?_)
    rw [a2]
    have := hpost (nI r.2.1) (by rw [c, if_neg (fun z => by cases z.1)])
    rw [c] at this
    exact this
  | true =>
    refine wpO_fk (by decide) ?_
    rw [a2, a3]
    have := fun x => hpost x
    rw [c] at this
    by_cases o : r.2.1 = L
    · exact wpO_tk (by rw [o]) (wpO_ret (this _ (by rw [if_pos ⟨rfl, o⟩])))
    · exact wpO_fk (fun z => o ((nI_eq (by omega) (by omega)).mp z)) (wpO_ret (this _ (by rw [if_neg (fun z => o z.2)])))
