/-! things, the call -/
theorem c_things {M : zM} {k n : Nat} (hk : k ≤ 80) (h0 : 0 < k) (h1 : M.1 1 1 = nI k) (h5 : M.1 5 3 = nI n) (hn : n ≤ 8) (hb : ∀ j, j < k → ∃ b : Nat, b < 256 ∧ M.1 2 j = nI b) : ∃ r T, fX7_readThings M = some (r, T) ∧ C2l n M T ∧ (match pLn (rdT (gT M (min k 79))) (gT M (min k 79)) n 8 (8 - n + 1) 0 0 with
    | .inl e => r = -1 - nI e
    | .inr (l, q) => if q = k then r = nI l.length ∧ ∀ i x, l[i]? = some x → T.1 7 (n + i) = nI x.1 ∧ T.1 6 (n + i) = nI x.2 else r = -1 - nI q) := by
  have hg := GT_of (most := 79) hb
  have h := t_lines (k := k) (from0 := n) hg (show min k 79 ≤ k by omega) hk (8 - n + 1) 0 0 4000 M (-1) (by omega) (by omega) (by omega) (by omega) h1 (fun j hj => (gT_in hj).symm)
  have ok := pLn_ok (base := n) (cap := 8) hg (fun p hp => rdT_ok hg hp) (8 - n + 1) 0 0 (Nat.zero_le _) (by omega)
  rw [Nat.add_zero] at h
  have es : zmin (M.1 1 1) 79 = nI (min k 79) := by rw [h1]; exact zmin_nI (b := 79) (by omega) (by omega)
  have e0 : ∀ o, fX7_readThings_L26 (nI (min k 79)) 4000 (nI n - 1) 1 (-1) 0 M = o → fX7_readThings M = o.bind (fun q => zs q (fun r => some r) (fun (q : Int32 × Int32 × zM) => zp q fun x3_170 q => zp q fun x4_170 M_170 => if (fX9_isEmpty M_170) = 0 then (zj (fun (_ : Unit) => some ((-1) - nI (min k 79), M_170)) fun J6 => if x4_170 = 0 then (if (M_170.1 1 1) ≤ nI (min k 79) then some ((x3_170 - (M_170.1 5 3)) + 1, M_170) else J6 ()) else J6 ()) else some (0, M_170))) := fun o ho => by
    unfold fX7_readThings
    simp only [zlet, es, h5]
    rw [ho]
  have ie : ∀ T : zM, C2l n M T → fX9_isEmpty T = 0 := fun T c => by unfold fX9_isEmpty; rw [c.2.1 1 (by omega) (by omega), h1, if_neg (nI_ne0 h0 (by omega))]
  generalize pLn (rdT (gT M (min k 79))) (gT M (min k 79)) n 8 (8 - n + 1) 0 0 = o at h ok ⊢
  match o, h, ok with
  | .inl e, Or.inl ⟨T, i1, i2⟩, ok => exact ⟨_, T, by rw [e0 _ i1]; rfl, i2, rfl⟩
  | .inl e, Or.inr ⟨j0, x, T, i1, i2⟩, ok =>
    subst j0
    refine ⟨-1 - nI (min k 79), T, ?_, i2, rfl⟩
    rw [e0 _ i1]
    have h10 : ¬ (1 : Int32) = 0 := by decide
    rw [Option.bind_some]
    show (if (fX9_isEmpty T) = 0 then (if (1 : Int32) = 0 then (if (T.1 1 1) ≤ nI (min k 79) then some ((x - (T.1 5 3)) + 1, T) else some ((-1) - nI (min k 79), T)) else some ((-1) - nI (min k 79), T)) else some (0, T)) = _
    rw [if_pos (ie T i2), if_neg h10]
  | .inr (l, q), Or.inl ⟨j0, T, i1, i2⟩, ok =>
    refine ⟨_, T, by rw [e0 _ i1]; rfl, i2, ?_⟩
    dsimp only
    rw [if_neg (by omega)]
  | .inr (l, q), Or.inr ⟨j0, T, i1, i2, i3⟩, ok =>
    have k1 : T.1 1 1 = nI k := by rw [i2.2.1 1 (by omega) (by omega)]; exact h1
    have k5 : T.1 5 3 = nI n := by rw [i2.2.1 5 (by omega) (by omega)]; exact h5
    have fin : fX7_readThings M = if nI k ≤ nI (min k 79) then some (((nI (n + 0 + l.length) - 1) - nI n) + 1, T) else some (-1 - nI (min k 79), T) := by
      rw [e0 _ i1, Option.bind_some]
      show (if (fX9_isEmpty T) = 0 then (if (0 : Int32) = 0 then (if (T.1 1 1) ≤ nI (min k 79) then some (((nI (n + 0 + l.length) - 1) - (T.1 5 3)) + 1, T) else some ((-1) - nI (min k 79), T)) else some ((-1) - nI (min k 79), T)) else some (0, T)) = _
      rw [if_pos (ie T i2), if_pos rfl, k1, k5]
    by_cases c : q = k
    · refine ⟨nI l.length, T, ?_, i2, ?_⟩
      · rw [fin, if_pos (leT (show k ≤ min k 79 by omega) (by omega)), Nat.add_zero]
        have := ok.1
        rw [show n + l.length = (n + l.length - 1) + 1 by omega, nI_pred, pk_sub (by omega), nI_1]
        congr 3
        omega
      · dsimp only
        rw [if_pos c]
        refine ⟨rfl, fun i x hi => ?_⟩
        have := i3 i x hi
        rw [Nat.add_zero] at this
        exact this
    · refine ⟨-1 - nI q, T, ?_, i2, ?_⟩
      · rw [fin, if_neg (leF (show min k 79 < k by omega) (by omega)), j0]
      · dsimp only
        rw [if_neg c]
theorem p_arrive {M : zM} {n L : Nat} (h : n + L ≤ 8) : ∃ T, fX10_arrive 60 (nI n) (nI L) M = some T ∧ T.2 = M.2 ∧ (∀ q, q ≤ 60 ∨ 64 < q → T.1 q = M.1 q) ∧ (∀ c, 1 ≤ c → c ≤ 4 → ∀ t, t < n ∨ n + L ≤ t → T.1 (60 + c) t = M.1 (60 + c) t) ∧ ∀ t, n ≤ t → t < n + L → T.1 61 t = 6 ∧ T.1 62 t = -1 ∧ T.1 63 t = -1 ∧ T.1 64 t = -1 := by
  have key : ∃ T, fX10_arrive_L2 60 (nI n) (nI L) 4000 (nI n) M = some T ∧ T.2 = M.2 ∧ (∀ q, q ≤ 60 ∨ 64 < q → T.1 q = M.1 q) ∧ (∀ c, 1 ≤ c → c ≤ 4 → ∀ t, t < n ∨ n + L ≤ t → T.1 (60 + c) t = M.1 (60 + c) t) ∧ ∀ t, n ≤ t → t < n + L → T.1 61 t = 6 ∧ T.1 62 t = -1 ∧ T.1 63 t = -1 ∧ T.1 64 t = -1 := by
    refine zforI (fun m (s : Int32 × zM) => fX10_arrive_L2 60 (nI n) (nI L) m s.1 s.2) (fun i s => s.1 = nI (n + i) ∧ s.2.2 = M.2 ∧ (∀ q, q ≤ 60 ∨ 64 < q → s.2.1 q = M.1 q) ∧ (∀ c, 1 ≤ c → c ≤ 4 → ∀ t, t < n ∨ n + i ≤ t → s.2.1 (60 + c) t = M.1 (60 + c) t) ∧ ∀ t, n ≤ t → t < n + i → s.2.1 61 t = 6 ∧ s.2.1 62 t = -1 ∧ s.2.1 63 t = -1 ∧ s.2.1 64 t = -1) L (fun r => ∃ T, r = some T ∧ T.2 = M.2 ∧ (∀ q, q ≤ 60 ∨ 64 < q → T.1 q = M.1 q) ∧ (∀ c, 1 ≤ c → c ≤ 4 → ∀ t, t < n ∨ n + L ≤ t → T.1 (60 + c) t = M.1 (60 + c) t) ∧ ∀ t, n ≤ t → t < n + L → T.1 61 t = 6 ∧ T.1 62 t = -1 ∧ T.1 63 t = -1 ∧ T.1 64 t = -1) ?_ ?_ L 0 4000 (nI n, M) (by omega) (by omega) ⟨rfl, rfl, fun _ _ => rfl, fun _ _ _ _ _ => rfl, fun t a b => absurd b (by omega)⟩
    · rintro m i ⟨b, T⟩ hi ⟨q1, q2, q3, q4, q5⟩
      dsimp only at q1 q2 q3 q4 q5 ⊢
      subst q1
      have ep := pX10_putWith (w := 60) (t := n + i) (who := 6) (M := T) rfl (by omega)
      generalize hT2 : zSI (zSI (zSI (zSI T (60 + 1) (n + i) 6) (60 + 2) (n + i) (-1)) (60 + 3) (n + i) (-1)) (60 + 4) (n + i) (-1) = T2 at ep
      have rT : ∀ c s, 1 ≤ c → T2.1 (60 + c) s = if c = 4 ∧ s = n + i then -1 else if c = 3 ∧ s = n + i then -1 else if c = 2 ∧ s = n + i then -1 else if c = 1 ∧ s = n + i then 6 else T.1 (60 + c) s := fun c s hc => by
        subst hT2
        rw [gSI, gSI, gSI, gSI]
        simp only [show (60 + c = 60 + 4) = (c = 4) from propext (by omega), show (60 + c = 60 + 3) = (c = 3) from propext (by omega), show (60 + c = 60 + 2) = (c = 2) from propext (by omega), show (60 + c = 60 + 1) = (c = 1) from propext (by omega)]
      refine ⟨(nI (n + (i + 1)), T2), ⟨rfl, by subst hT2; exact q2, fun q hq => by subst hT2; rw [zSI_other _ _ _ (by omega), zSI_other _ _ _ (by omega), zSI_other _ _ _ (by omega), zSI_other _ _ _ (by omega)]; exact q3 q hq, fun c c1 c4 t ht => ?_, fun t t1 t2 => ?_⟩, ?_⟩
      · rw [rT c t c1, if_neg (by omega), if_neg (by omega), if_neg (by omega), if_neg (by omega)]
        exact q4 c c1 c4 t (by omega)
      · have r1 := rT 1 t (by omega)
        have r2 := rT 2 t (by omega)
        have r3 := rT 3 t (by omega)
        have r4 := rT 4 t (by omega)
        by_cases z : t = n + i
        · simp [z] at r1 r2 r3 r4
          rw [z]
          exact ⟨r1, r2, r3, r4⟩
        · simp [z] at r1 r2 r3 r4
          rw [r1, r2, r3, r4]
          exact q5 t t1 (by omega)
      · simp only [fX10_arrive_L2, nI_add, if_neg (leF (show n + i < n + L by omega) (show n + L < 2 ^ 31 by omega)), if_neg (show ¬ 8 ≤ nI (n + i) from leF (a := 8) (by omega) (by omega)), if_pos (show zSH 60 = .inl 10 from rfl), ep, Option.bind_some, nI_1]
        rfl
    · rintro m ⟨b, T⟩ ⟨q1, q2, q3, q4, q5⟩
      dsimp only at q1 q2 q3 q4 q5 ⊢
      subst q1
      exact ⟨T, by simp only [fX10_arrive_L2, nI_add, if_pos (leT (Nat.le_refl (n + L)) (show n + L < 2 ^ 31 by omega))], q2, q3, q4, q5⟩
  obtain ⟨T, e, r⟩ := key
  exact ⟨T, by unfold fX10_arrive; rw [e]; rfl, r⟩
/-- the things come into their rows -/
theorem m_thingsC {R : zM} {n L : Nat} (h2 : R.1 36 1 = nI n) (hL : n + L ≤ 8) : ∃ T, fX12_things_L122 (nI L) 4000 0 R = some T ∧ T.2 = R.2 ∧ (∀ q, q ≠ 36 → q ≠ 37 → q ≠ 38 → q ≠ 39 → T.1 q = R.1 q) ∧ (∀ j, j ≠ 1 → T.1 36 j = R.1 36 j) ∧ T.1 36 1 = nI (n + L) ∧ (∀ j, j < n → T.1 38 j = R.1 38 j ∧ T.1 39 j = R.1 39 j ∧ T.1 37 j = R.1 37 j ∧ T.1 37 (8 + j) = R.1 37 (8 + j) ∧ T.1 37 (16 + j) = R.1 37 (16 + j)) ∧ (T.1 37 24 = R.1 37 24 ∧ T.1 37 25 = R.1 37 25) ∧ ∀ j, j < L → T.1 39 (n + j) = R.1 43 (2 * j) ∧ T.1 38 (n + j) = R.1 43 (2 * j + 1) ∧ T.1 37 (n + j) = 0 ∧ T.1 37 (8 + (n + j)) = 6 ∧ T.1 37 (16 + (n + j)) = 0 := by
  refine zforI (fun m (s : Int32 × zM) => fX12_things_L122 (nI L) m s.1 s.2) (fun i s => s.1 = nI i ∧ s.2.2 = R.2 ∧ (∀ q, q ≠ 36 → q ≠ 37 → q ≠ 38 → q ≠ 39 → s.2.1 q = R.1 q) ∧ (∀ j, j ≠ 1 → s.2.1 36 j = R.1 36 j) ∧ s.2.1 36 1 = nI (n + i) ∧ (∀ j, j < n → s.2.1 38 j = R.1 38 j ∧ s.2.1 39 j = R.1 39 j ∧ s.2.1 37 j = R.1 37 j ∧ s.2.1 37 (8 + j) = R.1 37 (8 + j) ∧ s.2.1 37 (16 + j) = R.1 37 (16 + j)) ∧ (s.2.1 37 24 = R.1 37 24 ∧ s.2.1 37 25 = R.1 37 25) ∧ ∀ j, j < i → s.2.1 39 (n + j) = R.1 43 (2 * j) ∧ s.2.1 38 (n + j) = R.1 43 (2 * j + 1) ∧ s.2.1 37 (n + j) = 0 ∧ s.2.1 37 (8 + (n + j)) = 6 ∧ s.2.1 37 (16 + (n + j)) = 0) L (fun r => ∃ T, r = some T ∧ T.2 = R.2 ∧ (∀ q, q ≠ 36 → q ≠ 37 → q ≠ 38 → q ≠ 39 → T.1 q = R.1 q) ∧ (∀ j, j ≠ 1 → T.1 36 j = R.1 36 j) ∧ T.1 36 1 = nI (n + L) ∧ (∀ j, j < n → T.1 38 j = R.1 38 j ∧ T.1 39 j = R.1 39 j ∧ T.1 37 j = R.1 37 j ∧ T.1 37 (8 + j) = R.1 37 (8 + j) ∧ T.1 37 (16 + j) = R.1 37 (16 + j)) ∧ (T.1 37 24 = R.1 37 24 ∧ T.1 37 25 = R.1 37 25) ∧ ∀ j, j < L → T.1 39 (n + j) = R.1 43 (2 * j) ∧ T.1 38 (n + j) = R.1 43 (2 * j + 1) ∧ T.1 37 (n + j) = 0 ∧ T.1 37 (8 + (n + j)) = 6 ∧ T.1 37 (16 + (n + j)) = 0) ?_ ?_ L 0 4000 (0, R) (by omega) (by omega) ⟨rfl, rfl, fun _ _ _ _ _ => rfl, fun _ _ => rfl, h2, fun _ _ => ⟨rfl, rfl, rfl, rfl, rfl⟩, ⟨rfl, rfl⟩, fun j hj => absurd hj (by omega)⟩
  · rintro m i ⟨b, T⟩ hi ⟨q1, q2, q3, q4, q5, q6, q7, q8⟩
    dsimp only at q1 q2 q3 q4 q5 q6 q7 q8 ⊢
    subst q1
    have k43 : T.1 43 = R.1 43 := q3 43 (by omega) (by omega) (by omega) (by omega)
    generalize hA : zSI T 39 (n + i) (R.1 43 (2 * i)) = A
    have a1 : A.1 36 1 = nI (n + i) := by subst hA; rw [zSI_other _ _ _ (by decide)]; exact q5
    have a43 : A.1 43 = R.1 43 := by subst hA; rw [zSI_other _ _ _ (by decide)]; exact k43
    generalize hB : zSI A 38 (n + i) (R.1 43 (2 * i + 1)) = B
    have b1 : B.1 36 1 = nI (n + i) := by subst hB; rw [zSI_other _ _ _ (by decide)]; exact a1
    generalize hC : zSI B 37 (n + i) 0 = C
    have c1 : C.1 36 1 = nI (n + i) := by subst hC; rw [zSI_other _ _ _ (by decide)]; exact b1
    generalize hD : zSI C 37 (8 + (n + i)) 6 = D
    have d1 : D.1 36 1 = nI (n + i) := by subst hD; rw [zSI_other _ _ _ (by decide)]; exact c1
    generalize hE : zSI D 37 (16 + (n + i)) 0 = E
    have e1 : E.1 36 1 = nI (n + i) := by subst hE; rw [zSI_other _ _ _ (by decide)]; exact d1
    have kq : ∀ q, q ≠ 37 → q ≠ 38 → q ≠ 39 → E.1 q = T.1 q := fun q x y z => by subst hE hD hC hB hA; rw [zSI_other _ _ _ x, zSI_other _ _ _ x, zSI_other _ _ _ x, zSI_other _ _ _ y, zSI_other _ _ _ z]
    have k39 : ∀ j, E.1 39 j = if j = n + i then R.1 43 (2 * i) else T.1 39 j := fun j => by
      subst hE hD hC hB hA
      rw [zSI_other _ _ _ (by decide), zSI_other _ _ _ (by decide), zSI_other _ _ _ (by decide), zSI_other _ _ _ (by decide), gSI]
      by_cases z : j = n + i
      · rw [if_pos ⟨rfl, z⟩, if_pos z]
      · rw [if_neg (fun w => z w.2), if_neg z]
    have k38 : ∀ j, E.1 38 j = if j = n + i then R.1 43 (2 * i + 1) else T.1 38 j := fun j => by
      subst hE hD hC hB hA
      rw [zSI_other _ _ _ (by decide), zSI_other _ _ _ (by decide), zSI_other _ _ _ (by decide), gSI]
      by_cases z : j = n + i
      · rw [if_pos ⟨rfl, z⟩, if_pos z]
      · rw [if_neg (fun w => z w.2), if_neg z, zSI_other _ _ _ (by decide)]
    have k37 : ∀ j, E.1 37 j = if j = 16 + (n + i) then 0 else if j = 8 + (n + i) then 6 else if j = n + i then 0 else T.1 37 j := fun j => by
      subst hE hD hC hB hA
      rw [gSI, gSI, gSI, zSI_other _ _ _ (by decide), zSI_other _ _ _ (by decide)]
      simp
    have i31 : n + i < 2 ^ 31 := by omega
    refine ⟨(nI (i + 1), zSI E 36 1 (nI (n + i + 1))), ⟨rfl, by subst hE hD hC hB hA; exact q2, fun q x y z w => by rw [zSI_other _ _ _ x, kq q y z w]; exact q3 q x y z w, fun j hj => by rw [gSI, if_neg (by omega), kq 36 (by omega) (by omega) (by omega)]; exact q4 j hj, by rw [gSI, if_pos ⟨rfl, rfl⟩]; rfl, fun j hj => ?_, ?_, fun j hj => ?_⟩, ?_⟩
    · simp only [zSI_other E 1 _ (show 38 ≠ 36 by decide), zSI_other E 1 _ (show 39 ≠ 36 by decide), zSI_other E 1 _ (show 37 ≠ 36 by decide)]
      rw [k38, k39, k37, k37, k37, if_neg (by omega), if_neg (by omega), if_neg (by omega), if_neg (by omega), if_neg (by omega), if_neg (by omega), if_neg (by omega), if_neg (by omega), if_neg (by omega), if_neg (by omega), if_neg (by omega)]
      exact q6 j hj
    · simp only [zSI_other E 1 _ (show 37 ≠ 36 by decide)]
      rw [k37, k37, if_neg (by omega), if_neg (by omega), if_neg (by omega), if_neg (by omega), if_neg (by omega), if_neg (by omega)]
      exact q7
    · simp only [zSI_other E 1 _ (show 38 ≠ 36 by decide), zSI_other E 1 _ (show 39 ≠ 36 by decide), zSI_other E 1 _ (show 37 ≠ 36 by decide)]
      rw [k38, k39, k37, k37, k37]
      by_cases z : j = i
      · subst z
        rw [if_pos rfl, if_pos rfl, if_neg (by omega), if_neg (by omega), if_pos rfl, if_neg (by omega), if_pos rfl, if_pos rfl]
        exact ⟨rfl, rfl, rfl, rfl, rfl⟩
      · rw [if_neg (by omega), if_neg (by omega), if_neg (by omega), if_neg (by omega), if_neg (by omega), if_neg (by omega), if_neg (by omega), if_neg (by omega), if_neg (by omega), if_neg (by omega), if_neg (by omega)]
        exact q8 j (by omega)
    · simp only [fX12_things_L122, if_neg (leF hi (show L < 2 ^ 31 by omega)), show (2 : Int32) * nI i = nI (2 * i) from pk_mul 2 i, nI_1, if_pos (zinT (show 2 * i < 16 by omega) (show 2 * i < 2 ^ 31 by omega)), nI_clamp (show 2 * i < 2 ^ 31 by omega), q5, if_pos (zinT (show n + i < 8 by omega) i31), nI_clamp i31, zlet, k43, hA, if_pos (zinT (show 2 * i + 1 < 16 by omega) (show 2 * i + 1 < 2 ^ 31 by omega)), nI_clamp (show 2 * i + 1 < 2 ^ 31 by omega), a1, a43, hB, b1, if_pos (zinT (show n + i < 26 by omega) i31), hC, c1, show (8 : Int32) + nI (n + i) = nI (8 + (n + i)) from nI_add 8 _, if_pos (zinT (show 8 + (n + i) < 26 by omega) (show 8 + (n + i) < 2 ^ 31 by omega)), nI_clamp (show 8 + (n + i) < 2 ^ 31 by omega), hD, d1, show (16 : Int32) + nI (n + i) = nI (16 + (n + i)) from nI_add 16 _, if_pos (zinT (show 16 + (n + i) < 26 by omega) (show 16 + (n + i) < 2 ^ 31 by omega)), nI_clamp (show 16 + (n + i) < 2 ^ 31 by omega), hE, e1]
  · rintro m ⟨b, T⟩ ⟨q1, q2, q3, q4, q5, q6, q7, q8⟩
    dsimp only at q1 q2 q3 q4 q5 q6 q7 q8 ⊢
    subst q1
    exact ⟨T, by simp only [fX12_things_L122, if_pos (leT (Nat.le_refl L) (by omega))], q2, q3, q4, q5, q6, q7, q8⟩
theorem op_things {M : zM} {N : Nat} (hN : N < 1000) (h : RAll M N) : OpS fX11_things fX12_things M N := by
  have h0 := h
  obtain ⟨n, nd, h1, h2, h3, h4, h5, h6, h7, h8, h9⟩ := h
  obtain ⟨k, hk, x1, x9, xb, xt⟩ := h3.signs
  have hn8 := h1.1.1
  have hd6 := h1.1.2
  have beg : ∀ M1 : zM, (∀ q, 36 ≤ q → q < 59 → M1.1 q = M.1 q) → ∃ R, fX12_beginText 79 (zSI M1 36 12 0) = R ∧ TSt (gT M (min k 79)) k 79 R 0 none ∧ (∀ q, q ≠ 36 → R.1 q = M1.1 q) ∧ (∀ j, j ∉ [9, 12, 13, 14, 15, 16, 17] → R.1 36 j = M.1 36 j) ∧ R.2.1 = M1.2.1 ∧ (∀ j, j ≠ 13 → R.2.2 j = M1.2.2 j) ∧ R.1 36 9 = 0 := by
    intro M1 a1
    obtain ⟨R, e, t0, t1, t2, t3, t4, t5⟩ := t_begin (M := M) (R0 := zSI M1 36 12 0) (most := 79) hk (by omega) (by rw [gSI, if_neg (by omega), a1 36 (by omega) (by omega)]; exact x9) (fun j hj => by rw [zSI_other _ _ _ (by decide), a1 41 (by omega) (by omega), xt j hj])
    refine ⟨R, e, t0, fun q hq => by rw [t1 q hq, zSI_other _ _ _ hq], fun j hj => ?_, t3, t4, t5⟩
    simp at hj
    rw [t2 j (by simp; omega), gSI, if_neg (by omega), a1 36 (by omega) (by omega)]
  have fin : ∀ r (C T : zM), fX11_things M = some (r, C) → fX12_things C = some (r, T) → (∀ q, q ≠ 1 → q ≠ 6 → q ≠ 7 → C.1 q = M.1 q) → (∀ j, j < n → C.1 6 j = M.1 6 j ∧ C.1 7 j = M.1 7 j) → C.2 = M.2 → C.1 1 1 = 0 → (∀ q, q ≠ 36 → q ≠ 43 → T.1 q = C.1 q) → (∀ j, j ∉ [9, 12, 13, 14, 15, 16, 17] → T.1 36 j = M.1 36 j) → T.1 36 9 = 0 → T.2.1 = C.2.1 → (∀ j, j ≠ 13 → T.2.2 j = C.2.2 j) → OpS fX11_things fX12_things M N := by
    intro r C T e1 e2 c1 c2 c3 c4 d1 d2 d3 d4 d5
    refine ⟨r, C, T, e1, e2, ?_⟩
    have sm : Sm [1, 6, 7, 43] [9, 12, 13, 14, 15, 16, 17] M T := ⟨fun q a b => by simp at b; rw [d1 q a (by omega), c1 q (by omega) (by omega) (by omega)], fun j hj => d2 j hj, by rw [d5 19 (by omega), c3], by rw [d5 20 (by omega), c3]⟩
    refine ⟨n, nd, ?_, h2.sm sm rfl (by omega), RX.empty (by rw [d1 1 (by omega) (by omega)]; exact c4) d3, h4.of (sm.1 3 (by decide) (by decide)) (sm.2.1 11 (by decide)) (by rw [d4, c3]), h5.sm sm rfl rfl, (h6.sm sm rfl rfl).up, h7.sm sm (by rw [sm.1 0 (by decide) (by decide)]) (by rw [sm.1 0 (by decide) (by decide)]) rfl, h8.sm sm rfl rfl, h9.sm sm rfl rfl⟩
    obtain ⟨s1, s2, s3, s4, s5⟩ := h1
    refine ⟨s1, ?_, fun t ht => ?_, fun t ht => ?_, ?_⟩
    · rw [sm.1 5 (by decide) (by decide), sm.2.1 1 (by decide), sm.2.1 2 (by decide)]; exact s2
    · rw [d1 6 (by omega) (by omega), (c2 t ht).1, sm.1 38 (by decide) (by decide)]; exact s3 t ht
    · rw [d1 7 (by omega) (by omega), (c2 t ht).2, sm.1 39 (by decide) (by decide)]; exact s4 t ht
    · rw [sm.1 8 (by decide) (by decide), sm.1 40 (by decide) (by decide)]; exact s5
  rcases Nat.eq_zero_or_pos k with hz | hz
  · subst hz
    obtain ⟨R, e, t0, t1, t2, t3, t4, t5⟩ := beg (zSI M 1 1 0) (fun q a b => by rw [zSI_other _ _ _ (by omega)])
    refine fin 0 (zSI M 1 1 0) R ?_ ?_ (fun q a _ _ => zSI_other _ _ _ a) (fun j _ => ⟨by rw [zSI_other _ _ _ (by decide)], by rw [zSI_other _ _ _ (by decide)]⟩) rfl (by rw [gSI, if_pos ⟨rfl, rfl⟩]) (fun q a _ => t1 q a) t2 t5 t3 t4
    · have ie : ¬ fX9_isEmpty M = 0 := by unfold fX9_isEmpty; rw [x1, if_pos (show nI 0 = 0 from rfl)]; decide
      have er : fX7_readThings M = some (0, M) := by
        unfold fX7_readThings
        rw [x1, show zmin (nI 0) 79 = nI 0 by decide]
        have : ∀ m x y z, fX7_readThings_L26 (nI 0) (m + 1) x y z 0 M = some (.inr (x, y, M)) := fun m x y z => by rw [fX7_readThings_L26.eq_2, if_pos (show nI 0 ≤ 0 by decide)]
        simp only [zlet]
        rw [this 3999, Option.bind_some]
        show (if (fX9_isEmpty M) = 0 then _ else some (0, M)) = _
        rw [if_neg ie]
      unfold fX11_things
      rw [er]
      rfl
    · unfold fX12_things
      simp only [zlet, e]
      rw [t0.1.1, if_pos (show nI 0 = 0 from rfl)]
  · have hg := GT_of (most := 79) xb
    obtain ⟨r, Ca, ec, cl, hr⟩ := c_things (M := M) hk hz x1 h1.2.1.1 hn8 xb
    have mL : ∀ R : zM, TSt (gT M (min k 79)) k 79 R 0 none → R.1 36 1 = nI n → _ := fun R t a => m_thingsL (base := n) hg (8 - n + 1) 0 0 4000 R (by omega) (by omega) (by omega) (Nat.zero_le _) a t
    have ok := pLn_ok (base := n) (cap := 8) hg (fun p hp => rdT_ok hg hp) (8 - n + 1) 0 0 (Nat.zero_le _) (by omega)
    generalize pLn (rdT (gT M (min k 79))) (gT M (min k 79)) n 8 (8 - n + 1) 0 0 = o at hr mL ok
    have bad : ∀ e, e ≤ 80 → r = -1 - nI e → (∀ R : zM, TSt (gT M (min k 79)) k 79 R 0 none → R.1 36 1 = nI n → ∃ x T0 T, fX12_things_L24 4000 0 1 R = some (x, T0) ∧ fX12_wasRight T0 = (0, T) ∧ T.1 36 17 = nI e ∧ FrH R T) → OpS fX11_things fX12_things M N := by
      intro e he er hR
      obtain ⟨R, eb, t0, t1, t2, t3, t4, t5⟩ := beg (zSI Ca 1 1 0) (fun q a b => by rw [zSI_other _ _ _ (by omega), cl.2.1 q (by omega) (by omega)])
      obtain ⟨x, T0, T, g1, g2, g3, g4⟩ := hR R t0 (by rw [t2 1 (by decide)]; exact h1.2.1.2.1)
      refine fin r (zSI Ca 1 1 0) T ?_ ?_ (fun q a b c => by rw [zSI_other _ _ _ a, cl.2.1 q b c]) (fun j hj => by rw [zSI_other _ _ _ (by decide), zSI_other _ _ _ (by decide)]; exact cl.2.2 j hj) cl.1 (by rw [gSI, if_pos ⟨rfl, rfl⟩]) (fun q a b => by rw [g4.1 q a b, t1 q a]) (fun j hj => by simp at hj; rw [g4.2.1 j (by omega) (by omega), t2 j (by simp; omega)]) (by rw [g4.2.1 9 (by omega) (by omega)]; exact t5) (by rw [g4.2.2, t3]) (fun j hj => by rw [g4.2.2, t4 j hj])
      · unfold fX11_things
        rw [ec]
        simp only [Option.bind_some, zp, zlet]
        rw [if_pos (by rw [er]; exact negE e he)]
        rfl
      · unfold fX12_things
        simp only [zlet, eb]
        rw [t0.1.1, if_neg (nI_ne0 hz (by omega)), g1]
        simp only [Option.bind_some, zp, g2, if_true, g3, er]
    match o, hr, mL, ok with
    | .inl e, hr, mL, ok =>
      refine bad e (by have : e ≤ min k 79 := ok; omega) hr (fun R t a => ?_)
      obtain ⟨x, T, p, g1, g2, g3⟩ := mL R t a
      exact ⟨x, T, T, g1, t_right0 g2, g2.1.2.2.2, g3⟩
    | .inr (l, q), hr, mL, ok =>
      dsimp only at hr
      have okq : q ≤ min k 79 := ok.2.2.1
      by_cases c : q = k
      · rw [if_pos c] at hr
        obtain ⟨er, el⟩ := hr
        have okL := ok.2.1
        have ok1 := ok.1
        rw [Nat.add_zero] at okL
        -- the class
        obtain ⟨Cb, eA, a1, a2, a3, a4⟩ := p_arrive (M := zSI Ca 1 1 0) okL
        generalize hC0 : zSI Cb 5 3 (nI (n + l.length)) = C0
        obtain ⟨C, ef, f1, f2, f3, f4, f5⟩ := p_forget C0
        have kC : ∀ q, q ≠ 1 → q ≠ 5 → q ≠ 6 → q ≠ 7 → q ≠ 9 → q ≠ 12 → (q ≤ 60 ∨ 64 < q) → C.1 q = M.1 q := fun q a b c d e g i => by rw [f2 q e g]; subst hC0; rw [zSI_other _ _ _ b, a2 q i, zSI_other _ _ _ a, cl.2.1 q c d]
        have kW : ∀ q, 60 < q → q ≤ 64 → C.1 q = Cb.1 q := fun q a b => by rw [f2 q (by omega) (by omega)]; subst hC0; rw [zSI_other _ _ _ (by omega)]
        have cC2 : C.2 = M.2 := by rw [f1]; subst hC0; show Cb.2 = _; rw [a1]; exact cl.1
        have e53 : (zSI Ca 1 1 0).1 5 3 = nI n := by rw [zSI_other _ _ _ (by decide), cl.2.1 5 (by omega) (by omega)]; exact h1.2.1.1
        have ecl : fX11_things M = some (r, C) := by
          unfold fX11_things
          rw [ec]
          simp only [Option.bind_some, zp, zlet]
          rw [if_neg (by rw [er]; exact leF (b := 0) (show 0 < l.length by omega) (by omega))]
          rw [show (fX9_clear Ca) = zSI Ca 1 1 0 from rfl, e53, er, eA]
          simp only [Option.bind_some]
          rw [a2 5 (by omega), e53, nI_add, hC0, ef]
          rfl
        -- the reference
        obtain ⟨R, eb, t0, t1, t2, t3, t4, t5⟩ := beg C (fun q a b => kC q (by omega) (by omega) (by omega) (by omega) (by omega) (by omega) (by omega))
        obtain ⟨T0, g1, g2, g3, g4, -⟩ := mL R t0 (by rw [t2 1 (by decide)]; exact h1.2.1.2.1)
        rw [Nat.zero_add] at g1
        obtain ⟨T1, d0, d1, d2, d3, d4, d5, d7, d6⟩ := m_thingsC (R := T0) (n := n) (L := l.length) (by rw [g4.2.1 1 (by omega) (by omega), t2 1 (by decide)]; exact h1.2.1.2.1) okL
        generalize hZ : fX12_told T1 = Z
        have z37 : Z.1 36 37 = T1.1 36 37 + 1 := by
          subst hZ
          show (zSI (zSI T1 36 25 0) 36 37 ((zSI T1 36 25 0).1 36 37 + 1)).1 36 37 = _
          rw [gSI, if_pos ⟨rfl, rfl⟩, gSI, if_neg (by omega)]
        have z25 : Z.1 36 25 = 0 := by
          subst hZ
          show (zSI (zSI T1 36 25 0) 36 37 _).1 36 25 = _
          rw [gSI, if_neg (by omega), gSI, if_pos ⟨rfl, rfl⟩]
        have zq : ∀ q, q ≠ 36 → Z.1 q = T1.1 q := fun q hq => by
          subst hZ
          show (zSI (zSI T1 36 25 0) 36 37 _).1 q = _
          rw [zSI_other _ _ _ hq, zSI_other _ _ _ hq]
        have zj : ∀ j, j ≠ 25 → j ≠ 37 → Z.1 36 j = T1.1 36 j := fun j a b => by
          subst hZ
          show (zSI (zSI T1 36 25 0) 36 37 _).1 36 j = _
          rw [gSI, if_neg (by omega), gSI, if_neg (by omega)]
        have z2 : Z.2 = T1.2 := by subst hZ; rfl
        have kZ : ∀ q, q ≠ 36 → q ≠ 37 → q ≠ 38 → q ≠ 39 → q ≠ 43 → Z.1 q = C.1 q := fun q a b c d e => by rw [zq q a, d2 q a b c d, g4.1 q a e, t1 q a]
        have jZ : ∀ j, j ∉ [1, 9, 12, 13, 14, 15, 16, 17, 25, 37] → Z.1 36 j = M.1 36 j := fun j hj => by simp at hj; rw [zj j (by omega) (by omega), d3 j (by omega), g4.2.1 j (by omega) (by omega), t2 j (by simp; omega)]
        have r37 : ∀ q, q = 37 ∨ q = 38 ∨ q = 39 → T0.1 q = M.1 q := fun q hq => by rw [g4.1 q (by omega) (by omega), t1 q (by omega), kC q (by omega) (by omega) (by omega) (by omega) (by omega) (by omega) (by omega)]
        refine ⟨r, C, Z, ecl, ?_, ?_⟩
        · unfold fX12_things
          simp only [zlet, eb]
          rw [t0.1.1, if_neg (nI_ne0 hz (by omega)), show fX12_things_L24 4000 0 1 R = some (nI l.length, T0) from g1]
          simp only [Option.bind_some, zp, t_rightK g2 c, show ¬ (1 : Int32) = 0 by decide, if_false, d0, hZ, er]
        · have sm : Sm [1, 5, 6, 7, 9, 12, 37, 38, 39, 43, 61, 62, 63, 64] [1, 9, 12, 13, 14, 15, 16, 17, 25, 37] M Z := ⟨fun q a b => by simp at b; rw [kZ q a (by omega) (by omega) (by omega) (by omega), kC q (by omega) (by omega) (by omega) (by omega) (by omega) (by omega) (by omega)], fun j hj => jZ j hj, by rw [z2, d1, g4.2.2, t4 19 (by omega), cC2], by rw [z2, d1, g4.2.2, t4 20 (by omega), cC2]⟩
          obtain ⟨u, x, p1, p2, p3, p4, p5, p6⟩ := h5
          refine ⟨n + l.length, nd, ?_, ?_, RX.empty ?_ ?_, h4.of (sm.1 3 (by decide) (by decide)) (sm.2.1 11 (by decide)) (by rw [z2, d1, g4.2.2, t3, cC2]), RP.zero p2 ?_ ?_ z25, h6.bump hN (fun i hi => ?_) ?_ (sm.1 57 (by decide) (by decide)) (sm.1 58 (by decide) (by decide)), h7.sm sm (by rw [sm.1 0 (by decide) (by decide)]) (by rw [sm.1 0 (by decide) (by decide)]) rfl, h8.sm sm rfl rfl, h9.sm sm rfl rfl⟩
          · obtain ⟨s1, s2, s3, s4, s5⟩ := h1
            have k6 : ∀ d, Z.1 6 d = Ca.1 6 d := fun d => by rw [kZ 6 (by omega) (by omega) (by omega) (by omega) (by omega), f2 6 (by omega) (by omega)]; subst hC0; rw [zSI_other _ _ _ (by decide), a2 6 (by omega), zSI_other _ _ _ (by decide)]
            have k7 : ∀ d, Z.1 7 d = Ca.1 7 d := fun d => by rw [kZ 7 (by omega) (by omega) (by omega) (by omega) (by omega), f2 7 (by omega) (by omega)]; subst hC0; rw [zSI_other _ _ _ (by decide), a2 7 (by omega), zSI_other _ _ _ (by decide)]
            refine ⟨⟨okL, s1.2⟩, ⟨?_, ?_, ?_, ?_⟩, fun t ht => ?_, fun t ht => ?_, fun d hd => ?_⟩
            · rw [kZ 5 (by omega) (by omega) (by omega) (by omega) (by omega), f2 5 (by omega) (by omega)]; subst hC0; rw [gSI, if_pos ⟨rfl, rfl⟩]
            · rw [zj 1 (by omega) (by omega)]; exact d4
            · rw [kZ 5 (by omega) (by omega) (by omega) (by omega) (by omega), f2 5 (by omega) (by omega)]; subst hC0; rw [gSI, if_neg (by omega), a2 5 (by omega), zSI_other _ _ _ (by decide), cl.2.1 5 (by omega) (by omega)]; exact s2.2.2.1
            · rw [jZ 2 (by decide)]; exact s2.2.2.2
            · rw [k6, zq 38 (by omega)]
              rcases Nat.lt_or_ge t n with z | z
              · rw [(cl.2.2 t z).1, (d5 t z).1, r37 38 (by omega)]
                exact s3 t z
              · obtain ⟨i, rfl⟩ : ∃ i, t = n + i := ⟨t - n, by omega⟩
                have il : i < l.length := by omega
                have hi : l[i]? = some l[i] := List.getElem?_eq_getElem il
                have h43 := (g3 i _ hi).2
                rw [Nat.zero_add] at h43
                rw [(el i _ hi).2, (d6 i il).2.1, h43]
                exact ⟨rfl, l[i].2, (ok.2.2.2 l[i] (List.getElem_mem il)).2, rfl⟩
            · rw [k7, zq 39 (by omega)]
              rcases Nat.lt_or_ge t n with z | z
              · rw [(cl.2.2 t z).2, (d5 t z).2.1, r37 39 (by omega)]
                exact s4 t z
              · obtain ⟨i, rfl⟩ : ∃ i, t = n + i := ⟨t - n, by omega⟩
                have il : i < l.length := by omega
                have hi : l[i]? = some l[i] := List.getElem?_eq_getElem il
                have h43 := (g3 i _ hi).1
                rw [Nat.zero_add] at h43
                rw [(el i _ hi).1, (d6 i il).1, h43]
                have hb := (ok.2.2.2 l[i] (List.getElem_mem il)).1
                exact ⟨rfl, l[i].1, hb.1, hb.2, rfl⟩
            · rw [sm.1 8 (by decide) (by decide), sm.1 40 (by decide) (by decide)]
              obtain ⟨w1, w, w2, w3, w4⟩ := s5 d hd
              exact ⟨w1, w, w2, Nat.lt_of_lt_of_le w3 (Nat.pow_le_pow_right (by omega) (by omega)), w4⟩
          · have kw : ∀ q, 60 < q → q ≤ 64 → Z.1 q = Cb.1 q := fun q a b => by rw [kZ q (by omega) (by omega) (by omega) (by omega) (by omega), kW q a b]
            have kc : ∀ c, 1 ≤ c → c ≤ 4 → ∀ t, t < n ∨ n + l.length ≤ t → Z.1 (60 + c) t = M.1 (60 + c) t := fun c c1 c4 t ht => by rw [kw _ (by omega) (by omega), a3 c c1 c4 t ht, zSI_other _ _ _ (by omega), cl.2.1 _ (by omega) (by omega)]
            refine ⟨fun t ht => ?_, fun t t1 t2 => ?_, ?_, ?_⟩
            · simp only [Nat.zero_add]
              rw [zq 37 (by omega)]
              rcases Nat.lt_or_ge t n with z | z
              · obtain ⟨-, -, w1, w2, w3⟩ := d5 t z
                rw [kc 1 (by omega) (by omega) t (Or.inl z), kc 2 (by omega) (by omega) t (Or.inl z), kc 3 (by omega) (by omega) t (Or.inl z), kc 4 (by omega) (by omega) t (Or.inl z), w1, w2, w3, r37 37 (by omega)]
                exact h2.at z
              · obtain ⟨i, rfl⟩ : ∃ i, t = n + i := ⟨t - n, by omega⟩
                obtain ⟨-, -, w1, w2, w3⟩ := d6 i (by omega)
                obtain ⟨v1, v2, v3, v4⟩ := a4 (n + i) (by omega) ht
                rw [w1, w2, w3, kw 61 (by omega) (by omega), kw 62 (by omega) (by omega), kw 63 (by omega) (by omega), kw 64 (by omega) (by omega), v1, v2, v3, v4]
                exact Or.inl ⟨rfl, ⟨6, by omega, rfl⟩, rfl, rfl, rfl, rfl⟩
            · rw [kc 1 (by omega) (by omega) t (Or.inr t1), kc 2 (by omega) (by omega) t (Or.inr t1), kc 3 (by omega) (by omega) t (Or.inr t1), kc 4 (by omega) (by omega) t (Or.inr t1)]
              exact h2.2.1 t (by omega) t2
            · rw [sm.1 60 (by decide) (by decide), Nat.zero_add, zq 37 (by omega), d7.1, r37 37 (by omega)]
              have := h2.2.2.1; rw [Nat.zero_add] at this; exact this
            · rw [sm.1 60 (by decide) (by decide), Nat.zero_add, zq 37 (by omega), d7.2, r37 37 (by omega)]
              have := h2.2.2.2; rw [Nat.zero_add] at this; exact this
          · rw [kZ 1 (by omega) (by omega) (by omega) (by omega) (by omega), f2 1 (by omega) (by omega)]; subst hC0; rw [zSI_other _ _ _ (by decide), a2 1 (by omega), gSI, if_pos ⟨rfl, rfl⟩]
          · rw [zj 9 (by omega) (by omega), d3 9 (by omega), g4.2.1 9 (by omega) (by omega)]; exact t5
          · rw [kZ 9 (by omega) (by omega) (by omega) (by omega) (by omega), f3]; subst hC0; rw [zSI_other _ _ _ (by decide), a2 9 (by omega), zSI_other _ _ _ (by decide), cl.2.1 9 (by omega) (by omega)]; exact p3
          · rw [kZ 9 (by omega) (by omega) (by omega) (by omega) (by omega)]; exact f4
          · rw [kZ 12 (by omega) (by omega) (by omega) (by omega) (by omega)]; exact f5 i hi
          · rw [z37, d3 37 (by omega), g4.2.1 37 (by omega) (by omega), t2 37 (by decide)]
      · rw [if_neg c] at hr
        refine bad q (by omega) hr (fun R t a => ?_)
        obtain ⟨T, g1, g2, g3, g4, -⟩ := mL R t a
        refine ⟨_, T, zSI T 36 17 (nI q), g1, t_rightF g2 (by omega), by rw [gSI, if_pos ⟨rfl, rfl⟩], g4.trans (FrI.flt T _).H⟩
