/-! the Whereabouts: writes -/
theorem gSA (M : zM) (k a : Nat) (f : Nat → Int32) : (zSA M k f).1 a = if a = k then f else M.1 a := rfl
theorem gSAj (M : zM) (k a b : Nat) (f : Nat → Int32) : (zSA M k f).1 a b = if a = k then f b else M.1 a b := by
  rw [gSA]; split <;> rfl
theorem gSA2 (M : zM) (k : Nat) (f : Nat → Int32) : (zSA M k f).2 = M.2 := rfl
theorem zM_ext {M N : zM} (h1 : ∀ k j, M.1 k j = N.1 k j) (h2 : M.2 = N.2) : M = N := by
  obtain ⟨a, b⟩ := M
  obtain ⟨c, d⟩ := N
  have : a = c := funext fun k => funext fun j => h1 k j
  subst this
  have : b = d := h2
  subst this
  rfl
theorem pX10_putWith {w t : Nat} {who : Int32} {M : zM} (hw : zSH w = .inl 10) (ht : t < 8) : fX10_putWith w (nI t) who M = some (zSI (zSI (zSI (zSI M (w + 1) t who) (w + 2) t (-1)) (w + 3) t (-1)) (w + 4) t (-1)) := by
  have h1 : t < 2 ^ 31 := by omega
  simp only [fX10_putWith, hw, if_true, if_pos (zinT ht h1), nI_clamp h1, zlet]
/-- a DAY: the days of thing t then, whether it goes -/
def wNd (M : zM) (w t : Nat) : Int32 := zmin 99 (M.1 (w + 3) t + 1)
def wDue (M : zM) (w : Nat) (term : Int32) (t : Nat) : Bool := !decide (M.1 (w + 3) t < 0) && !decide (wNd M w t < term)
/-- the rows behind a DAY (things below i done) -/
def wDay (M : zM) (w : Nat) (term : Int32) (i k j : Nat) : Int32 :=
  if j < i then
    if k = w + 1 then (if wDue M w term j = true then M.1 (w + 4) j else M.1 k j)
    else if k = w + 2 then (if wDue M w term j = true then -1 else M.1 k j)
    else if k = w + 3 then (if wDue M w term j = true then -1 else if M.1 k j < 0 then M.1 k j else wNd M w j)
    else if k = w + 4 then (if wDue M w term j = true then -1 else M.1 k j)
    else M.1 k j
  else M.1 k j
theorem pX10_passDay_L {w : Nat} {term : Int32} {M : zM} (hw : zSH w = .inl 10) : fX10_passDay_L4 w term 4000 0 0 M = some (bsA (wDue M w term) 8, (fun k j => wDay M w term 8 k j, M.2)) := by
  refine zforI (fun n (s : Int32 × Int32 × zM) => fX10_passDay_L4 w term n s.1 s.2.1 s.2.2) (fun i s => s.1 = bsA (wDue M w term) i ∧ s.2.1 = nI i ∧ (∀ k j, s.2.2.1 k j = wDay M w term i k j) ∧ s.2.2.2 = M.2) 8 (fun o => o = some (bsA (wDue M w term) 8, (fun k j => wDay M w term 8 k j, M.2))) ?_ ?_ 8 0 4000 (0, 0, M) rfl (by omega) ⟨rfl, rfl, fun k j => by simp [wDay], rfl⟩
  · rintro n i ⟨b, t, N⟩ hi ⟨h1, h2, h3, h4⟩
    dsimp only at h1 h2 h3 h4 ⊢
    subst h1 h2
    have hi31 : i < 2 ^ 31 := by omega
    have e3 : N.1 (w + 3) i = M.1 (w + 3) i := by rw [h3]; simp [wDay]
    have e4 : N.1 (w + 4) i = M.1 (w + 4) i := by rw [h3]; simp [wDay]
    by_cases c1 : M.1 (w + 3) i < 0
    · have hd : wDue M w term i = false := by simp [wDue, c1]
      refine ⟨(bsA (wDue M w term) (i + 1), nI (i + 1), N), ⟨rfl, rfl, ?_, h4⟩, ?_⟩
      · intro k j
        rw [h3]
        unfold wDay
        by_cases hj : j < i
        · rw [if_pos hj, if_pos (show j < i + 1 by omega)]
        · rw [if_neg hj]
          by_cases hj2 : j = i
          · subst hj2
            rw [if_pos (by omega), hd]
            simp only [Bool.false_eq_true, if_false]
            split <;> (try rfl)
            split <;> (try rfl)
            split <;> (try rfl)
            · rename_i hk; subst hk; rw [if_pos c1]
            · split <;> rfl
          · rw [if_neg (by omega)]
      · simp only [fX10_passDay_L4, if_neg (show ¬ 8 ≤ nI i from leF (a := 8) hi (by omega)), hw, if_true, pX10_isIn hw hi, e3, if_pos c1, Option.bind_some, zp, nI_1, bsA, hd, Bool.false_eq_true, if_false]
    · by_cases c2 : wNd M w i < term
      · have hd : wDue M w term i = false := by simp [wDue, c2]
        refine ⟨(bsA (wDue M w term) (i + 1), nI (i + 1), zSI N (w + 3) i (wNd M w i)), ⟨rfl, rfl, ?_, h4⟩, ?_⟩
        · intro k j
          show (zSI N (w + 3) i (wNd M w i)).1 k j = _
          rw [gSI]
          by_cases hkj : k = w + 3 ∧ j = i
          · obtain ⟨rfl, rfl⟩ := hkj
            simp [wDay, hd, c1]
          · rw [if_neg hkj, h3]
            unfold wDay
            by_cases hj : j < i
            · rw [if_pos hj, if_pos (show j < i + 1 by omega)]
            · rw [if_neg hj]
              by_cases hj2 : j = i
              · subst hj2
                have : k ≠ w + 3 := fun z => hkj ⟨z, rfl⟩
                rw [if_pos (by omega), hd]
                simp [this]
              · rw [if_neg (by omega)]
        · have hz : zmin 99 (M.1 (w + 3) i + 1) = wNd M w i := rfl
          simp only [fX10_passDay_L4, if_neg (show ¬ 8 ≤ nI i from leF (a := 8) hi (by omega)), hw, if_true, pX10_isIn hw hi, e3, if_neg c1, Option.bind_some, zp, zlet, nI_1, nI_clamp hi31, if_pos (zinT hi hi31), if_neg (show ¬ (1 : Int32) = 0 by decide), hz, gSI, and_self, if_pos c2, bsA, hd, Bool.false_eq_true, if_false]
      · have hd : wDue M w term i = true := by simp [wDue, c1, c2]
        refine ⟨(bsA (wDue M w term) (i + 1), nI (i + 1), zSI (zSI (zSI (zSI (zSI N (w + 3) i (wNd M w i)) (w + 1) i (M.1 (w + 4) i)) (w + 2) i (-1)) (w + 3) i (-1)) (w + 4) i (-1)), ⟨rfl, rfl, ?_, h4⟩, ?_⟩
        · intro k j
          show (zSI (zSI (zSI (zSI (zSI N (w + 3) i (wNd M w i)) (w + 1) i (M.1 (w + 4) i)) (w + 2) i (-1)) (w + 3) i (-1)) (w + 4) i (-1)).1 k j = _
          simp only [gSI]
          rw [h3]
          unfold wDay
          by_cases hj2 : j = i
          · subst hj2
            rw [if_pos (show j < j + 1 by omega), if_neg (show ¬ j < j by omega), hd]
            simp only [and_true, if_true]
            by_cases k1 : k = w + 1
            · subst k1; simp
            · by_cases k2 : k = w + 2
              · subst k2; simp
              · by_cases k3 : k = w + 3
                · subst k3; simp
                · by_cases k4 : k = w + 4
                  · subst k4; simp
                  · simp [k1, k2, k3, k4]
          · simp only [hj2, and_false, if_false]
            by_cases hj : j < i
            · rw [if_pos hj, if_pos (show j < i + 1 by omega)]
            · rw [if_neg hj, if_neg (show ¬ j < i + 1 by omega)]
        · have hz : zmin 99 (M.1 (w + 3) i + 1) = wNd M w i := rfl
          simp only [fX10_passDay_L4, if_neg (show ¬ 8 ≤ nI i from leF (a := 8) hi (by omega)), hw, if_true, pX10_isIn hw hi, e3, if_neg c1, Option.bind_some, zp, zlet, nI_1, nI_clamp hi31, if_pos (zinT hi hi31), if_neg (show ¬ (1 : Int32) = 0 by decide), hz, gSI, and_self, if_neg c2, bsA, hd, pX10_putWith hw hi, show ¬ w + 4 = w + 3 by omega, false_and, if_false, e4]
  · rintro n ⟨b, t, N⟩ ⟨h1, h2, h3, h4⟩
    dsimp only at h1 h2 h3 h4 ⊢
    subst h1 h2
    simp only [fX10_passDay_L4, if_pos (show 8 ≤ nI 8 from leT (a := 8) (Nat.le_refl 8) (by omega))]
    refine congrArg some (congrArg (Prod.mk _) (zM_ext h3 h4))
theorem pX10_passDay {w : Nat} {term : Int32} {M : zM} (hw : zSH w = .inl 10) : fX10_passDay w term M = some (bsA (wDue M w term) 8, zSI (fun k j => wDay M w term 8 k j, M.2) w 4 (M.1 w 4 + 1)) := by
  have e : wDay M w term 8 w 4 = M.1 w 4 := by simp [wDay]
  simp only [fX10_passDay, pX10_passDay_L hw, Option.bind_some, zp, hw, if_true, zlet, e]
/-! the reference: a DAY in a row a of 26 -/
theorem zLen_of {a e n : Nat} (h : zSH a = .inr (e, n)) : zLen a = n := by unfold zLen; rw [h]
theorem pX12_goes {a t : Nat} {how who : Int32} {M : zM} (ha : zSH a = .inr (0, 26)) (ht : t < 8) : fX12_goes a (nI t) how who M = some (zSI (zSI (zSI M a t how) a (8 + t) who) a (16 + t) 0) := by
  simp only [fX12_goes, zLen_of ha, ha, if_true, if_pos (zinT (show t < 26 by omega) (by omega)), nI_clamp (show t < 2 ^ 31 by omega), show (8 : Int32) + nI t = nI (8 + t) from nI_add 8 t, show (16 : Int32) + nI t = nI (16 + t) from nI_add 16 t, if_pos (zinT (show 8 + t < 26 by omega) (by omega)), if_pos (zinT (show 16 + t < 26 by omega) (by omega)), nI_clamp (show 8 + t < 2 ^ 31 by omega), nI_clamp (show 16 + t < 2 ^ 31 by omega), zlet]
def mNd (M : zM) (a t : Nat) : Int32 := zmin 99 (M.1 a (16 + t) + 1)
def mDue (M : zM) (a : Nat) (term : Int32) (t : Nat) : Bool := decide (M.1 a t = 2) && decide (term ≤ mNd M a t)
/-- place j of the row behind a DAY, things below i done -/
def mDay (M : zM) (a : Nat) (term : Int32) (i k j : Nat) : Int32 :=
  if k = a ∧ j < 24 ∧ j % 8 < i then
    if j < 8 then (if mDue M a term j = true then 0 else M.1 a j)
    else if j < 16 then M.1 a j
    else (if mDue M a term (j - 16) = true then 0 else if M.1 a (j - 16) = 2 then mNd M a (j - 16) else M.1 a j)
  else M.1 k j
theorem pX12_goDay_L {a n : Nat} {M : zM} (ha : zSH a = .inr (0, 26)) (h36 : a ≠ 36) (hn : M.1 36 1 = nI n) (h8 : n ≤ 8) : fX12_goDay_L4 a 4000 0 0 M = some (bsA (mDue M a (M.1 36 3)) n, (fun k j => mDay M a (M.1 36 3) n k j, M.2)) := by
  generalize ht : M.1 36 3 = term
  refine zforI (fun m (s : Int32 × Int32 × zM) => fX12_goDay_L4 a m s.1 s.2.1 s.2.2) (fun i s => s.1 = bsA (mDue M a term) i ∧ s.2.1 = nI i ∧ (∀ k j, s.2.2.1 k j = mDay M a term i k j) ∧ s.2.2.2 = M.2) n (fun o => o = some (bsA (mDue M a term) n, (fun k j => mDay M a term n k j, M.2))) ?_ ?_ n 0 4000 (0, 0, M) (by omega) (by omega) ⟨rfl, rfl, fun k j => by simp [mDay], rfl⟩
  · rintro m i ⟨b, t, N⟩ hi ⟨h1, h2, h3, h4⟩
    dsimp only at h1 h2 h3 h4 ⊢
    subst h1 h2
    have hi31 : i < 2 ^ 31 := by omega
    have e0 : N.1 a i = M.1 a i := by rw [h3]; unfold mDay; rw [if_neg (by omega)]
    have e8 : N.1 a (8 + i) = M.1 a (8 + i) := by rw [h3]; unfold mDay; rw [if_neg (by omega)]
    have e16 : N.1 a (16 + i) = M.1 a (16 + i) := by rw [h3]; unfold mDay; rw [if_neg (by omega)]
    have e36 : N.1 36 1 = nI n := by rw [h3]; unfold mDay; rw [if_neg (by omega)]; exact hn
    have e363 : N.1 36 3 = term := by rw [h3]; unfold mDay; rw [if_neg (by omega)]; exact ht
    have r8 : (8 : Int32) + nI i = nI (8 + i) := nI_add 8 i
    have r16 : (16 : Int32) + nI i = nI (16 + i) := nI_add 16 i
    by_cases c1 : M.1 a i = 2
    · by_cases c2 : term ≤ mNd M a i
      · have hd : mDue M a term i = true := by simp [mDue, c1, c2]
        refine ⟨(bsA (mDue M a term) (i + 1), nI (i + 1), zSI (zSI (zSI (zSI N a (16 + i) (mNd M a i)) a i 0) a (8 + i) (M.1 a (8 + i))) a (16 + i) 0), ⟨rfl, rfl, ?_, h4⟩, ?_⟩
        · intro k j
          show (zSI (zSI (zSI (zSI N a (16 + i) (mNd M a i)) a i 0) a (8 + i) (M.1 a (8 + i))) a (16 + i) 0).1 k j = _
          simp only [gSI]
          by_cases hk : k = a
          · subst hk
            by_cases j0 : j = i
            · subst j0
              rw [if_neg (by omega), if_neg (by omega), if_pos ⟨rfl, rfl⟩]
              unfold mDay
              rw [if_pos ⟨rfl, by omega, by omega⟩, if_pos (by omega), hd, if_pos rfl]
            · by_cases j8 : j = 8 + i
              · subst j8
                rw [if_neg (by omega), if_pos ⟨rfl, rfl⟩]
                unfold mDay
                rw [if_pos ⟨rfl, by omega, by omega⟩, if_neg (by omega), if_pos (by omega)]
              · by_cases j16 : j = 16 + i
                · subst j16
                  rw [if_pos ⟨rfl, rfl⟩]
                  unfold mDay
                  rw [if_pos ⟨rfl, by omega, by omega⟩, if_neg (by omega), if_neg (by omega), show 16 + i - 16 = i by omega, hd, if_pos rfl]
                · rw [if_neg (by omega), if_neg (by omega), if_neg (by omega), if_neg (by omega), h3]
                  unfold mDay
                  by_cases hd2 : k = k ∧ j < 24 ∧ j % 8 < i
                  · rw [if_pos hd2, if_pos (show k = k ∧ j < 24 ∧ j % 8 < i + 1 from ⟨rfl, hd2.2.1, by omega⟩)]
                  · rw [if_neg hd2, if_neg (fun z => hd2 ⟨rfl, z.2.1, by omega⟩)]
          · simp only [hk, false_and, if_false]
            rw [h3]
            unfold mDay
            rw [if_neg (by omega), if_neg (by omega)]
        · have hz : zmin 99 (M.1 a (16 + i) + 1) = mNd M a i := rfl
          simp only [fX12_goDay_L4, e36, if_neg (leF hi (by omega)), zLen_of ha, ha, if_true, if_pos (zinT (show i < 26 by omega) hi31), nI_clamp hi31, e0, if_pos c1, r16, r8, if_pos (zinT (show 16 + i < 26 by omega) (by omega)), if_pos (zinT (show 8 + i < 26 by omega) (by omega)), nI_clamp (show 16 + i < 2 ^ 31 by omega), nI_clamp (show 8 + i < 2 ^ 31 by omega), e16, hz, zlet, gSI, show ¬ (36 = a) from fun z => h36 z.symm, false_and, if_false, e363, and_self, if_true, if_pos c2, show ¬ (8 + i = 16 + i) by omega, and_false, e8, pX12_goes ha (show i < 8 by omega), Option.bind_some, zp, nI_1, bsA, hd]
      · have hd : mDue M a term i = false := by simp [mDue, c2]
        refine ⟨(bsA (mDue M a term) (i + 1), nI (i + 1), zSI N a (16 + i) (mNd M a i)), ⟨rfl, rfl, ?_, h4⟩, ?_⟩
        · intro k j
          show (zSI N a (16 + i) (mNd M a i)).1 k j = _
          rw [gSI]
          by_cases hkj : k = a ∧ j = 16 + i
          · obtain ⟨rfl, rfl⟩ := hkj
            rw [if_pos ⟨rfl, rfl⟩]
            unfold mDay
            rw [if_pos ⟨rfl, by omega, by omega⟩, if_neg (by omega), if_neg (by omega), show 16 + i - 16 = i by omega, hd, if_neg (by decide), if_pos c1]
          · rw [if_neg hkj, h3]
            unfold mDay
            by_cases hk : k = a
            · subst hk
              by_cases hd2 : k = k ∧ j < 24 ∧ j % 8 < i
              · rw [if_pos hd2, if_pos (show k = k ∧ j < 24 ∧ j % 8 < i + 1 from ⟨rfl, hd2.2.1, by omega⟩)]
              · rw [if_neg hd2]
                by_cases hd3 : k = k ∧ j < 24 ∧ j % 8 < i + 1
                · rw [if_pos hd3]
                  have : j = i ∨ j = 8 + i := by omega
                  rcases this with rfl | rfl
                  · rw [if_pos (by omega), hd, if_neg (by decide)]
                  · rw [if_neg (by omega), if_pos (by omega)]
                · rw [if_neg hd3]
            · rw [if_neg (by omega), if_neg (by omega)]
        · have hz : zmin 99 (M.1 a (16 + i) + 1) = mNd M a i := rfl
          simp only [fX12_goDay_L4, e36, if_neg (leF hi (by omega)), zLen_of ha, ha, if_true, if_pos (zinT (show i < 26 by omega) hi31), nI_clamp hi31, e0, if_pos c1, r16, if_pos (zinT (show 16 + i < 26 by omega) (by omega)), nI_clamp (show 16 + i < 2 ^ 31 by omega), e16, hz, zlet, gSI, show ¬ (36 = a) from fun z => h36 z.symm, false_and, if_false, e363, and_self, if_neg c2, Option.bind_some, zp, nI_1, bsA, hd, Bool.false_eq_true]
    · have hd : mDue M a term i = false := by simp [mDue, c1]
      refine ⟨(bsA (mDue M a term) (i + 1), nI (i + 1), N), ⟨rfl, rfl, ?_, h4⟩, ?_⟩
      · intro k j
        rw [h3]
        unfold mDay
        by_cases hk : k = a
        · subst hk
          by_cases hd2 : k = k ∧ j < 24 ∧ j % 8 < i
          · rw [if_pos hd2, if_pos (show k = k ∧ j < 24 ∧ j % 8 < i + 1 from ⟨rfl, hd2.2.1, by omega⟩)]
          · rw [if_neg hd2]
            by_cases hd3 : k = k ∧ j < 24 ∧ j % 8 < i + 1
            · rw [if_pos hd3]
              have : j = i ∨ j = 8 + i ∨ j = 16 + i := by omega
              rcases this with rfl | rfl | rfl
              · rw [if_pos (by omega), hd, if_neg (by decide)]
              · rw [if_neg (by omega), if_pos (by omega)]
              · rw [if_neg (by omega), if_neg (by omega), show 16 + i - 16 = i by omega, hd, if_neg (by decide), if_neg c1]
            · rw [if_neg hd3]
        · rw [if_neg (by omega), if_neg (by omega)]
      · simp only [fX12_goDay_L4, e36, if_neg (leF hi (by omega)), zLen_of ha, ha, if_true, if_pos (zinT (show i < 26 by omega) hi31), nI_clamp hi31, e0, if_neg c1, Option.bind_some, zp, nI_1, bsA, hd, Bool.false_eq_true, if_false]
  · rintro m ⟨b, t, N⟩ ⟨h1, h2, h3, h4⟩
    dsimp only at h1 h2 h3 h4 ⊢
    subst h1 h2
    have e36 : N.1 36 1 = nI n := by rw [h3]; unfold mDay; rw [if_neg (by omega)]; exact hn
    simp only [fX12_goDay_L4, e36, if_pos (leT (Nat.le_refl n) (by omega))]
    exact congrArg some (congrArg (Prod.mk _) (zM_ext h3 h4))
theorem pX12_goDay {a n : Nat} {M : zM} (ha : zSH a = .inr (0, 26)) (h36 : a ≠ 36) (hn : M.1 36 1 = nI n) (h8 : n ≤ 8) : fX12_goDay a M = some (bsA (mDue M a (M.1 36 3)) n, zSI (fun k j => mDay M a (M.1 36 3) n k j, M.2) a 24 (M.1 a 24 + 1)) := by
  have e : mDay M a (M.1 36 3) n a 24 = M.1 a 24 := by unfold mDay; rw [if_neg (by omega)]
  simp only [fX12_goDay, pX12_goDay_L ha h36 hn h8, Option.bind_some, zp, ha, zLen_of ha, if_true, if_pos (show zin 24 26 by decide), zlet, e]
