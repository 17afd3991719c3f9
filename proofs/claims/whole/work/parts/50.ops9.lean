/-! match, gets, confused -/
theorem isDe0 {x : Int32} (h : x < 0 ∨ nI 256 ≤ x) : fX11_isDescription x = 0 ∧ fX12_areMarks x = 0 := by
  refine ⟨?_, in0 (n := 256) (by omega) h⟩
  unfold fX11_isDescription
  by_cases h0 : x < 0
  · rw [if_pos h0]
  · rw [if_neg h0, if_pos (show 255 < x from (out_lt (by omega) h h0).2)]
theorem isDe1 {m : Nat} (h : m < 256) : fX11_isDescription (nI m) = 1 ∧ fX12_areMarks (nI m) = 1 := by
  refine ⟨?_, in1 (n := 256) (by omega) h⟩
  unfold fX11_isDescription
  rw [if_neg (nI_nneg (by omega)), if_neg (show ¬ 255 < nI m from in_nlt (n := 256) (by omega) h)]
theorem tm_eq (x : Int32) : fX11_toldMatch x = 1000 + fX12_put x := rfl
theorem op_match {M : zM} {n nd : Nat} (hS : RS M n nd) (hW : RW M n 60 37 0) (hC : RC M) (hU : RU M) (hO : RO M) (x y : Int32) : OpQ (fX11_match x y) (fX12_match x y) M := by
  obtain ⟨l, v, S, hR⟩ := hU
  have hS0 := hS
  obtain ⟨⟨h8, h6⟩, ⟨s1, s2, s3, s4⟩, -, -, -⟩ := hS
  rcases split_ix x (n := 256) (by omega) with hx | ⟨m, hm, rfl⟩
  · refine opR (r := -1) hO ?_ (fun N f => ?_)
    · unfold fX11_match
      exact wpO_tk (isDe0 hx).1 (wpO_ret ⟨rfl, FrC.refl M, rfl, rfl⟩)
    · unfold fX12_match
      exact wM_thrown (fun N0 f0 a1 a2 _ => wpO_tk (isDe0 hx).2 (wpO_ret ⟨rfl, f0, a1, by rw [a2]⟩))
  · rcases split_ix y (n := n) (by omega) with hy | ⟨t, ht, rfl⟩
    · refine opR (r := -1) hO ?_ (fun N f => ?_)
      · unfold fX11_match
        exact wpO_fk (by rw [(isDe1 hm).1]; decide) (wpO_tk (isThingC0 s1 (by omega) hy) (wpO_ret ⟨rfl, FrC.refl M, rfl, rfl⟩))
      · unfold fX12_match
        exact wM_thrown (fun N0 f0 a1 a2 _ => wpO_fk (by rw [(isDe1 hm).2]; decide) (wpO_tk (isThingM0 (n := n) (by rw [((E12.ofC f).fr f0).2.1 1 rfl]; exact s2) (by omega) hy) (wpO_ret ⟨rfl, f0, a1, by rw [a2]⟩)))
    · refine opR (r := 1000 + fX12_put (v (sE M 37 (nI m) t))) hO ?_ (fun N f => ?_)
      · unfold fX11_match
        refine wpO_fk (by rw [(isDe1 hm).1]; decide) (wpO_fk (by rw [isThingC1 s1 (by omega) ht]; decide) (wpO_bk (wpO_mono (c_mt hS0 hW rfl hR ht (CE.refl M 60)) ?_)))
        rintro ⟨z, N⟩ ⟨h1, f1⟩
        dsimp only at h1 f1
        subst h1
        exact wpO_pk (wpO_ret ⟨rfl, f1.toC, f1.row⟩)
      · unfold fX12_match
        refine wM_thrown (fun N0 f0 a1 a2 _ => wpO_fk (by rw [(isDe1 hm).2]; decide) (wpO_fk (by rw [isThingM1 (n := n) (by rw [((E12.ofC f).fr f0).2.1 1 rfl]; exact s2) (by omega) ht]; decide) (wpO_bk (wpO_mono (m_mt (a := 37) rfl (by omega) ⟨hC.2.2.2.2.1, Or.inl rfl, hR.2.2.1, hR.2.2.2⟩ (show t < 8 by omega) (ME.ofE ((E12.ofC f).fr f0))) ?_))))
        rintro ⟨z, N1⟩ ⟨h1, f1⟩
        dsimp only at h1 f1
        subst h1
        exact wpO_pk (wpO_ret ⟨rfl, f0.trans f1.toM, by rw [f1.row.1, a1], by rw [f1.row.2, a2]⟩)
/-- how many are in and match well enough -/
def hmN (B : zM) (v : (Nat → Int32) → Int32) (told : Int32) (t : Nat) : Nat := if B.1 37 t = 2 ∧ ¬ v (sE B 37 told t) < B.1 36 4 then 1 else 0
theorem c_many {B N : zM} {n nd S : Nat} {told : Int32} {l : List Int32} {v : (Nat → Int32) → Int32} (hS : RS B n nd) (hW : RW B n 60 37 0) (hR : RV B l v S) (hq : B.1 0 18 = B.1 36 4) (e : CE B N 60) : wpO (fX11_howManyMatch told N) (fun q => q.1 = nI (smN (hmN B v told) n) ∧ FrV 13 N q.2) := by
  have h8 := hS.1.1
  have key : wpO (fX11_howManyMatch_L4 told 4000 0 0 N) (fun q => q.1 = nI (smN (hmN B v told) n) ∧ FrV 13 N q.2) := by
    refine zforI (fun k (q : Int32 × Int32 × zM) => fX11_howManyMatch_L4 told k q.1 q.2.1 q.2.2) (fun i q => q.1 = nI (smN (hmN B v told) i) ∧ q.2.1 = nI i ∧ FrV 13 N q.2.2) n (fun o => wpO o (fun q => q.1 = nI (smN (hmN B v told) n) ∧ FrV 13 N q.2)) ?_ ?_ n 0 4000 (0, 0, N) (by omega) (by omega) ⟨rfl, rfl, FrV.refl 13 N⟩
    · rintro k i ⟨a, b, N1⟩ hi ⟨e1, e2, f⟩
      dsimp only at e1 e2 f ⊢
      subst e1 e2
      have eN := e.fr (by omega) f
      have hd := RW_t hW hi
      obtain ⟨⟨y, N2⟩, q1, q2, q3⟩ := c_mt (told := told) hS hW rfl hR hi eN
      dsimp only at q2 q3
      subst q2
      have e5 : N1.1 5 3 = nI n := by rw [eN.1]; exact hS.2.1.1
      have e63 : N1.1 63 = B.1 63 := eN.2.2.2.2.2.2.1
      have e018 : N2.1 0 18 = B.1 36 4 := by rw [(eN.fr (by omega) q3).2.2.2.2.2.2.2]; exact hq
      rcases RWt_in hd with ⟨c1, c2, -⟩ | ⟨c1, c2⟩
      · refine ⟨(nI (smN (hmN B v told) (i + 1)), nI (i + 1), N2), ⟨rfl, rfl, f.trans q3⟩, ?_⟩
        simp only [fX11_howManyMatch_L4, e5, if_neg (leF hi (by omega)), pX10_isIn (w := 60) rfl (show i < 8 by omega), e63, if_neg c2, Option.bind_some, show ¬ (1 : Int32) = 0 by decide, if_false, q1, zp, e018, smN, hmN, c1, true_and, nI_1]
        by_cases d : v (sE B 37 told i) < B.1 36 4
        · simp only [d, if_true, not_true, if_false, Option.bind_some, Nat.add_zero]
        · simp only [d, if_false, not_false_eq_true, if_true, Option.bind_some]
      · refine ⟨(nI (smN (hmN B v told) (i + 1)), nI (i + 1), N1), ⟨rfl, rfl, f⟩, ?_⟩
        simp only [fX11_howManyMatch_L4, e5, if_neg (leF hi (by omega)), pX10_isIn (w := 60) rfl (show i < 8 by omega), e63, if_pos c2, Option.bind_some, if_true, zp, smN, hmN, c1, false_and, if_false, nI_1, Nat.add_zero]
    · rintro k ⟨a, b, N1⟩ ⟨e1, e2, f⟩
      dsimp only at e1 e2 f ⊢
      subst e1 e2
      have eN := e.fr (by omega) f
      have e5 : N1.1 5 3 = nI n := by rw [eN.1]; exact hS.2.1.1
      exact ⟨(nI (smN (hmN B v told) n), N1), by simp only [fX11_howManyMatch_L4, e5, if_pos (leT (Nat.le_refl n) (by omega))], rfl, f⟩
  unfold fX11_howManyMatch
  refine wpO_bk (wpO_mono key ?_)
  rintro ⟨y, N2⟩ h
  exact wpO_pk (wpO_ret h)
theorem m_many {B N : zM} {n nd S : Nat} {told x : Int32} {v : (Nat → Int32) → Int32} (hS : RS B n nd) (hA : AR B 44 S v) (e : ME B N 37 44) : wpO (fX12_gets_L36 told x 4000 0 0 N) (fun q => q.1 = nI (smN (hmN B v told) n) ∧ FrQ N q.2) := by
  have h8 := hS.1.1
  refine zforI (fun k (q : Int32 × Int32 × zM) => fX12_gets_L36 told x k q.1 q.2.1 q.2.2) (fun i q => q.1 = nI (smN (hmN B v told) i) ∧ q.2.1 = nI i ∧ FrQ N q.2.2) n (fun o => wpO o (fun q => q.1 = nI (smN (hmN B v told) n) ∧ FrQ N q.2)) ?_ ?_ n 0 4000 (0, 0, N) (by omega) (by omega) ⟨rfl, rfl, FrQ.refl N⟩
  · rintro k i ⟨a, b, N1⟩ hi ⟨e1, e2, f⟩
    dsimp only at e1 e2 f ⊢
    subst e1 e2
    have eN := e.fr (by omega) hA.2.1 f
    obtain ⟨⟨y, N2⟩, q1, q2, q3⟩ := m_mt (a := 37) (told := told) rfl (by omega) hA (show i < 8 by omega) eN
    dsimp only at q2 q3
    subst q2
    have e5 : N1.1 36 1 = nI n := by rw [eN.1]; exact hS.2.1.2.1
    have e37 : N1.1 37 = B.1 37 := eN.2.2.2.1
    have e4 : N2.1 36 4 = B.1 36 4 := (eN.fr (by omega) hA.2.1 q3).2.2.2.2.2.2.1
    by_cases c1 : B.1 37 i = 2
    · refine ⟨(nI (smN (hmN B v told) (i + 1)), nI (i + 1), N2), ⟨rfl, rfl, f.trans q3⟩, ?_⟩
      simp only [fX12_gets_L36, e5, if_neg (leF hi (by omega)), if_pos (zinT (show i < 26 by omega) (by omega)), nI_clamp (show i < 2 ^ 31 by omega), e37, c1, if_true, q1, Option.bind_some, zp, zlet, e4, smN, hmN, true_and, nI_1]
      by_cases d : v (sE B 37 told i) < B.1 36 4
      · simp only [d, if_true, not_true, if_false, Option.bind_some, Nat.add_zero, iadd_0]
      · simp only [d, if_false, not_false_eq_true, if_true, Option.bind_some, nI_1]
    · refine ⟨(nI (smN (hmN B v told) (i + 1)), nI (i + 1), N1), ⟨rfl, rfl, f⟩, ?_⟩
      simp only [fX12_gets_L36, e5, if_neg (leF hi (by omega)), if_pos (zinT (show i < 26 by omega) (by omega)), nI_clamp (show i < 2 ^ 31 by omega), e37, c1, if_false, Option.bind_some, zp, zlet, smN, hmN, false_and, nI_1, Nat.add_zero, iadd_0]
  · rintro k ⟨a, b, N1⟩ ⟨e1, e2, f⟩
    dsimp only at e1 e2 f ⊢
    subst e1 e2
    have eN := e.fr (by omega) hA.2.1 f
    have e5 : N1.1 36 1 = nI n := by rw [eN.1]; exact hS.2.1.2.1
    exact ⟨(nI (smN (hmN B v told) n), N1), by simp only [fX12_gets_L36, e5, if_pos (leT (Nat.le_refl n) (by omega))], rfl, f⟩
theorem CR.frV {M N : zM} {l : List Int64} (h : CR M l) (f : FrV 13 M N) : CR N l := h.fr f.row.1 f.row.2
theorem MR.frQ {M N : zM} {l : List Int64} (h : MR M l) (f : FrQ M N) : MR N l := h.fr f.row.1 (by rw [f.row.2])
theorem op_gets {M : zM} {n nd : Nat} (hS : RS M n nd) (hW : RW M n 60 37 0) (hC : RC M) (hU : RU M) (hO : RO M) (x : Int32) : OpQ (fX11_gets x) (fX12_gets x) M := by
  obtain ⟨l, v, S, hR⟩ := hU
  have hS0 := hS
  have hA : AR M 44 S v := ⟨hC.2.2.2.2.1, Or.inl rfl, hR.2.2.1, hR.2.2.2⟩
  obtain ⟨⟨h8, h6⟩, ⟨s1, s2, s3, s4⟩, -, -, -⟩ := hS
  rcases split_ix x (n := 256) (by omega) with hx | ⟨m, hm, rfl⟩
  · refine opR (r := -1) hO ?_ (fun N f => ?_)
    · unfold fX11_gets
      exact wpO_tk (isDe0 hx).1 (wpO_ret ⟨rfl, FrC.refl M, rfl, rfl⟩)
    · unfold fX12_gets
      exact wM_thrown (fun N0 f0 a1 a2 _ => wpO_tk (isDe0 hx).2 (wpO_ret ⟨rfl, f0, a1, by rw [a2]⟩))
  · have cB := c_best (N := M) (told := nI m) hS0 hW rfl (by omega) hR hC.2.2.1 (CE.refl M 60)
    have mB : ∀ N, E12 M N → wpO (fX12_gotBy 37 (nI m) N) (fun q => q.1 = oM (gO M n 37 v (nI m)) ∧ FrQ N q.2) := fun N e => m_got (a := 37) hS0 rfl (by omega) hA (ME.ofE e)
    have hP := gO_P (B := M) (n := n) (a := 37) (v := v) (told := nI m)
    generalize gO M n 37 v (nI m) = A at cB mB hP
    cases A with
    | none =>
      refine opR (r := -2) hO ?_ (fun N f => ?_)
      · unfold fX11_gets
        refine wpO_fk (by rw [(isDe1 hm).1]; decide) (wpO_bk (wpO_mono cB ?_))
        rintro ⟨z, N⟩ ⟨h1, f1⟩
        dsimp only at h1 f1
        subst h1
        exact wpO_pk (wpO_fk (show ¬ 0 ≤ oC none by decide) (wpO_ret ⟨rfl, f1.toC, f1.row⟩))
      · unfold fX12_gets
        refine wM_thrown (fun N0 f0 a1 a2 _ => wpO_fk (by rw [(isDe1 hm).2]; decide) (wpO_bk (wpO_mono (mB N0 ((E12.ofC f).fr f0)) ?_)))
        rintro ⟨z, N1⟩ ⟨h1, f1⟩
        dsimp only at h1 f1
        subst h1
        exact wpO_pk (wpO_fk (show ¬ 0 ≤ oM none by decide) (wpO_ret ⟨rfl, f0.trans f1.toM, by rw [f1.row.1, a1], by rw [f1.row.2, a2]⟩))
    | some b =>
      obtain ⟨hb, h2⟩ := hP b rfl
      have b0 : 0 ≤ nI b := leT (a := 0) (Nat.zero_le b) (by omega)
      refine opQ (r := nI b) (l := [(1000 + fX12_put (v (sE M 37 (nI m) b))).toInt64, (nI (smN (hmN M v (nI m)) n)).toInt64]) (Nat.le_of_ble_eq_true rfl) ?_ (fun N f => ?_)
      · unfold fX11_gets
        refine wpO_fk (by rw [(isDe1 hm).1]; decide) (wpO_bk (wpO_mono cB ?_))
        rintro ⟨z, N⟩ ⟨h1, f1⟩
        dsimp only at h1 f1
        subst h1
        refine wpO_pk (wpO_tk b0 (wC_begin (fun N1 g1 r1 => wpO_bk (wpO_mono (c_mt hS0 hW rfl hR hb (CE.ofC (f1.toC.trans g1))) ?_))))
        rintro ⟨z, N2⟩ ⟨h2, f2⟩
        dsimp only at h2 f2
        subst h2
        refine wpO_pk (wC_tell (r1.frV f2) (Nat.le_of_ble_eq_true rfl) (fun N3 g3 r3 => wpO_bk (wpO_mono (c_many hS0 hW hR hC.2.2.1 (CE.ofC (((f1.toC.trans g1).trans f2.toC).trans g3))) ?_)))
        rintro ⟨z, N4⟩ ⟨h4, f4⟩
        dsimp only at h4 f4
        subst h4
        exact wpO_pk (wC_tell (r3.frV f4) (Nat.le_of_ble_eq_true rfl) (fun N5 g5 r5 => wpO_ret ⟨rfl, ((((f1.toC.trans g1).trans f2.toC).trans g3).trans f4.toC).trans g5, r5⟩))
      · unfold fX12_gets
        refine wM_thrown (fun N0 f0 a1 a2 _ => wpO_fk (by rw [(isDe1 hm).2]; decide) (wpO_bk (wpO_mono (mB N0 ((E12.ofC f).fr f0)) ?_)))
        rintro ⟨z, N1⟩ ⟨h1, f1⟩
        dsimp only at h1 f1
        subst h1
        refine wpO_pk (wpO_tk b0 (wpO_bk (wpO_mono (m_many hS0 hA (ME.ofE ((E12.ofC f).fr (f0.trans f1.toM)))) ?_)))
        rintro ⟨z, N2⟩ ⟨h2, f2⟩
        dsimp only at h2 f2
        subst h2
        have g2 := (f0.trans f1.toM).trans f2.toM
        refine wpO_pk (wM_begin (fun N3 f3 r3 => wpO_bk (wpO_mono (m_mt (a := 37) rfl (by omega) hA (show b < 8 by omega) (ME.ofE ((E12.ofC f).fr (g2.trans f3)))) ?_)))
        rintro ⟨z, N4⟩ ⟨h4, f4⟩
        dsimp only at h4 f4
        subst h4
        exact wpO_pk (wM_tell (r3.frQ f4) (Nat.le_of_ble_eq_true rfl) (fun N5 f5 r5 => wM_tell r5 (Nat.le_of_ble_eq_true rfl) (fun N6 f6 r6 => wpO_ret ⟨rfl, (((g2.trans f3).trans f4.toM).trans f5).trans f6, r6⟩)))
/-! confused -/
theorem c_conf {B : zM} {n nd S t : Nat} {told : Int32} {l : List Int32} {v : (Nat → Int32) → Int32} (hS : RS B n nd) (hW : RW B n 60 37 0) (hR : RV B l v S) (ht : t < n) {N : zM} (e : CE B N 60) : wpO (fX11_confused_L28 (nI t) told 4000 (-1) 0 0 N) (fun q => q.1 = oC (fd (bS (fun o => decide (o ≠ t ∧ B.1 37 o = 2)) (fun o => v (sE B 37 told o))) none n) ∧ (∀ b, fd (bS (fun o => decide (o ≠ t ∧ B.1 37 o = 2)) (fun o => v (sE B 37 told o))) none n = some b → q.2.1 = v (sE B 37 told b)) ∧ FrV 13 N q.2.2) := by
  have h8 := hS.1.1
  generalize hV : (fun t => v (sE B 37 told t)) = V
  have eV : ∀ t, v (sE B 37 told t) = V t := fun t => by rw [← hV]
  generalize hI : (fun o => decide (o ≠ t ∧ B.1 37 o = 2)) = I
  have eI : ∀ o, I o = decide (o ≠ t ∧ B.1 37 o = 2) := fun o => by rw [← hI]
  simp only [eV]
  have key : ∀ k i m N s x, i + k = n → k < m → CE B N 60 → (∀ b, s = some b → b < n ∧ x = V b) → wpO (fX11_confused_L28 (nI t) told m (oC s) x (nI i) N) (fun q => q.1 = oC (fd (fun j => bS I V (i + j)) s k) ∧ (∀ b, fd (fun j => bS I V (i + j)) s k = some b → q.2.1 = V b) ∧ FrV 13 N q.2.2) := by
    intro k
    induction k with
    | zero =>
      intro i m N s x hi hm e hs
      obtain ⟨m, rfl⟩ : ∃ q, m = q + 1 := ⟨m - 1, by omega⟩
      rw [fX11_confused_L28.eq_2]
      have : i = n := by omega
      subst this
      exact wpO_tk (by rw [e.1, hS.2.1.1]; exact leT (Nat.le_refl i) (by omega)) (wpO_ret ⟨rfl, fun b hb => (hs b hb).2, FrV.refl 13 N⟩)
    | succ k ih =>
      intro i m N s x hi hm e hs
      obtain ⟨m, rfl⟩ : ∃ q, m = q + 1 := ⟨m - 1, by omega⟩
      have hin : i < n := by omega
      rw [fX11_confused_L28.eq_2]
      refine wpO_fk (by rw [e.1, hS.2.1.1]; exact leF hin (by omega)) ?_
      have ef : fd (fun j => bS I V (i + j)) s (k + 1) = fd (fun j => bS I V (i + 1 + j)) (bS I V i s) k := by
        have gen : ∀ k, fd (fun j => bS I V (i + j)) s (k + 1) = fd (fun j => bS I V (i + 1 + j)) (bS I V i s) k := by
          intro k
          induction k with
          | zero => rfl
          | succ k ih2 =>
            show bS I V (i + (k + 1)) (fd (fun j => bS I V (i + j)) s (k + 1)) = bS I V (i + 1 + k) (fd (fun j => bS I V (i + 1 + j)) (bS I V i s) k)
            rw [ih2, show i + (k + 1) = i + 1 + k by omega]
        exact gen k
      rw [ef]
      have skip : I i = false → wpO (some (oC s, x, N)) (fun r => wpO (zp r fun x3 q => zp q fun x4 M => fX11_confused_L28 (nI t) told m x3 x4 (nI i + 1) M) (fun q => q.1 = oC (fd (fun j => bS I V (i + 1 + j)) (bS I V i s) k) ∧ (∀ b, fd (fun j => bS I V (i + 1 + j)) (bS I V i s) k = some b → q.2.1 = V b) ∧ FrV 13 N q.2.2)) := fun c => by
        have es : bS I V i s = s := by unfold bS; rw [if_neg (by rw [c]; decide)]
        rw [es]
        refine wpO_ret (wpO_pk (wpO_pk ?_))
        rw [nI_1]
        exact ih (i + 1) m N s x (by omega) (by omega) e hs
      refine wpO_bk ?_
      by_cases ct : i = t
      · exact wpO_tk (by rw [ct]) (skip (by rw [eI]; simp [ct]))
      · refine wpO_fk (fun z => ct ((nI_eq (by omega) (by omega)).mp z)) (wpO_ek (pX10_isIn (w := 60) rfl (show i < 8 by omega)) ?_)
        rw [e.2.2.2.2.2.2.1]
        rcases RWt_in (RW_t hW hin) with ⟨c1, c2, -⟩ | ⟨c1, c2⟩
        · rw [if_neg c2]
          have iI : I i = true := by rw [eI]; simp [ct, c1]
          refine wpO_fk (by decide) (wpO_bk (wpO_mono (c_mt hS hW rfl hR hin e) ?_))
          rintro ⟨y, N2⟩ ⟨h1, f1⟩
          dsimp only at h1 f1
          rw [eV] at h1
          subst h1
          refine wpO_pk ?_
          have e2 := e.fr (by omega) f1
          simp only [zj]
          have take : bS I V i s = some i → wpO (some (nI i, V i, N2)) (fun r => wpO (zp r fun x3 q => zp q fun x4 M => fX11_confused_L28 (nI t) told m x3 x4 (nI i + 1) M) (fun q => q.1 = oC (fd (fun j => bS I V (i + 1 + j)) (bS I V i s) k) ∧ (∀ b, fd (fun j => bS I V (i + 1 + j)) (bS I V i s) k = some b → q.2.1 = V b) ∧ FrV 13 N q.2.2)) := fun es => by
            rw [es]
            refine wpO_ret (wpO_pk (wpO_pk ?_))
            rw [nI_1]
            exact wpO_mono (ih (i + 1) m N2 (some i) (V i) (by omega) (by omega) e2 (fun b hb => by cases hb; exact ⟨hin, rfl⟩)) (fun q h => ⟨h.1, h.2.1, f1.trans h.2.2⟩)
          cases s with
          | none => exact wpO_tk (show oC none < 0 by decide) (take (by unfold bS; rw [if_pos iI]))
          | some b =>
            obtain ⟨hb, hx⟩ := hs b rfl
            subst hx
            refine wpO_fk (show ¬ nI b < 0 from nI_nneg (by omega)) ?_
            by_cases d2 : V b < V i
            · exact wpO_fk ((ile_nlt _ _).mpr d2) (take (by unfold bS; rw [if_pos iI]; show (if V b < V i then some i else some b) = _; rw [if_pos d2]))
            · have es : bS I V i (some b) = some b := by unfold bS; rw [if_pos iI]; show (if V b < V i then some i else some b) = _; rw [if_neg d2]
              rw [es]
              refine wpO_tk ((ilt_nle _ _).mp d2) (wpO_ret (wpO_pk (wpO_pk ?_)))
              rw [nI_1]
              exact wpO_mono (ih (i + 1) m N2 (some b) (V b) (by omega) (by omega) e2 (fun c hc => by cases hc; exact ⟨hb, rfl⟩)) (fun q h => ⟨h.1, h.2.1, f1.trans h.2.2⟩)
        · rw [if_pos c2]
          exact wpO_tk rfl (skip (by rw [eI]; simp [c1]))
  have h := key n 0 4000 N none 0 (by omega) (by omega) e (fun b hb => by cases hb)
  rw [show fd (fun j => bS I V (0 + j)) none n = fd (bS I V) none n from fd_congr (fun i z _ => by rw [Nat.zero_add])] at h
  exact h
theorem m_conf {B : zM} {n nd S t : Nat} {v : (Nat → Int32) → Int32} (hS : RS B n nd) (hA : AR B 44 S v) (ht : t < n) {N : zM} (e : ME B N 37 44) : wpO (fX12_confused_L20 (nI t) 4000 (-2) 0 N) (fun q => q.1 = oM (fd (bS (fun o => decide (o ≠ t ∧ B.1 37 o = 2)) (fun o => v (sE B 37 (B.1 38 t) o))) none n) ∧ FrQ N q.2) := by
  have h8 := hS.1.1
  generalize hV : (fun o => v (sE B 37 (B.1 38 t) o)) = V
  have eV : ∀ o, v (sE B 37 (B.1 38 t) o) = V o := fun t => by rw [← hV]
  generalize hI : (fun o => decide (o ≠ t ∧ B.1 37 o = 2)) = I
  have eI : ∀ o, I o = decide (o ≠ t ∧ B.1 37 o = 2) := fun o => by rw [← hI]
  have key : ∀ k i m N s, i + k = n → k < m → ME B N 37 44 → (∀ b, s = some b → b < n) → wpO (fX12_confused_L20 (nI t) m (oM s) (nI i) N) (fun q => q.1 = oM (fd (fun j => bS I V (i + j)) s k) ∧ FrQ N q.2) := by
    intro k
    induction k with
    | zero =>
      intro i m N s hi hm e hs
      obtain ⟨m, rfl⟩ : ∃ q, m = q + 1 := ⟨m - 1, by omega⟩
      rw [fX12_confused_L20.eq_2]
      have : i = n := by omega
      subst this
      exact wpO_tk (by rw [e.1, hS.2.1.2.1]; exact leT (Nat.le_refl i) (by omega)) (wpO_ret ⟨rfl, FrQ.refl N⟩)
    | succ k ih =>
      intro i m N s hi hm e hs
      obtain ⟨m, rfl⟩ : ∃ q, m = q + 1 := ⟨m - 1, by omega⟩
      have hin : i < n := by omega
      rw [fX12_confused_L20.eq_2]
      refine wpO_fk (by rw [e.1, hS.2.1.2.1]; exact leF hin (by omega)) ?_
      have ef : fd (fun j => bS I V (i + j)) s (k + 1) = fd (fun j => bS I V (i + 1 + j)) (bS I V i s) k := by
        have gen : ∀ k, fd (fun j => bS I V (i + j)) s (k + 1) = fd (fun j => bS I V (i + 1 + j)) (bS I V i s) k := by
          intro k
          induction k with
          | zero => rfl
          | succ k ih2 =>
            show bS I V (i + (k + 1)) (fd (fun j => bS I V (i + j)) s (k + 1)) = bS I V (i + 1 + k) (fd (fun j => bS I V (i + 1 + j)) (bS I V i s) k)
            rw [ih2, show i + (k + 1) = i + 1 + k by omega]
        exact gen k
      rw [ef]
      have skip : I i = false → wpO (some (oM s, N)) (fun r => wpO (zp r fun x3 M => fX12_confused_L20 (nI t) m x3 (nI i + 1) M) (fun q => q.1 = oM (fd (fun j => bS I V (i + 1 + j)) (bS I V i s) k) ∧ FrQ N q.2)) := fun c => by
        have es : bS I V i s = s := by unfold bS; rw [if_neg (by rw [c]; decide)]
        rw [es]
        refine wpO_ret (wpO_pk ?_)
        rw [nI_1]
        exact ih (i + 1) m N s (by omega) (by omega) e hs
      refine wpO_bk ?_
      by_cases ct : i = t
      · exact wpO_tk (by rw [ct]) (skip (by rw [eI]; simp [ct]))
      · refine wpO_fk (fun z => ct ((nI_eq (by omega) (by omega)).mp z)) (wpO_tk (zinT (show i < 26 by omega) (by omega)) ?_)
        rw [nI_clamp (show i < 2 ^ 31 by omega), e.2.2.2.1]
        by_cases c1 : B.1 37 i = 2
        · have iI : I i = true := by rw [eI]; simp [ct, c1]
          refine wpO_tk c1 ?_
          simp only [zj]
          have take : bS I V i s = some i → ∀ N2, ME B N2 37 44 → FrQ N N2 → wpO (some (nI i, N2)) (fun r => wpO (zp r fun x3 M => fX12_confused_L20 (nI t) m x3 (nI i + 1) M) (fun q => q.1 = oM (fd (fun j => bS I V (i + 1 + j)) (bS I V i s) k) ∧ FrQ N q.2)) := fun es N2 e2 f1 => by
            rw [es]
            refine wpO_ret (wpO_pk ?_)
            rw [nI_1]
            exact wpO_mono (ih (i + 1) m N2 (some i) (by omega) (by omega) e2 (fun b hb => by cases hb; exact hin)) (fun q h => ⟨h.1, f1.trans h.2⟩)
          cases s with
          | none => exact wpO_tk (show oM none = -2 from rfl) (take (by unfold bS; rw [if_pos iI]) N e (FrQ.refl N))
          | some b =>
            have hb := hs b rfl
            refine wpO_fk (show ¬ nI b = -2 from fun z => by
              have q : ¬ nI b < 0 := nI_nneg (by omega)
              rw [z] at q
              exact q (by decide)) (wpO_tk (zinT (show t < 8 by omega) (by omega)) ?_)
            rw [nI_clamp (show t < 2 ^ 31 by omega), e.2.1]
            refine wpO_bk (wpO_mono (m_mt (a := 37) rfl (by omega) hA (show i < 8 by omega) e) ?_)
            rintro ⟨y, N2⟩ ⟨h1, f1⟩
            dsimp only at h1 f1
            rw [eV] at h1
            subst h1
            have e2 := e.fr (by omega) hA.2.1 f1
            refine wpO_pk ?_
            rw [e2.2.1]
            refine wpO_bk (wpO_mono (m_mt (a := 37) (t := b) rfl (by omega) hA (show b < 8 by omega) e2) ?_)
            rintro ⟨y, N3⟩ ⟨h3, f3⟩
            dsimp only at h3 f3
            rw [eV] at h3
            subst h3
            have e3 := e2.fr (by omega) hA.2.1 f3
            refine wpO_pk ?_
            by_cases d2 : V b < V i
            · exact wpO_fk ((ile_nlt _ _).mpr d2) (take (by unfold bS; rw [if_pos iI]; show (if V b < V i then some i else some b) = _; rw [if_pos d2]) N3 e3 (f1.trans f3))
            · have es : bS I V i (some b) = some b := by unfold bS; rw [if_pos iI]; show (if V b < V i then some i else some b) = _; rw [if_neg d2]
              rw [es]
              refine wpO_tk ((ilt_nle _ _).mp d2) (wpO_ret (wpO_pk ?_))
              rw [nI_1]
              exact wpO_mono (ih (i + 1) m N3 (some b) (by omega) (by omega) e3 (fun c hc => by cases hc; exact hb)) (fun q h => ⟨h.1, (f1.trans f3).trans h.2⟩)
        · exact wpO_fk c1 (skip (by rw [eI]; simp [c1]))
  have h := key n 0 4000 N none (by omega) (by omega) e (fun b hb => by cases hb)
  rw [show fd (fun j => bS I V (0 + j)) none n = fd (bS I V) none n from fd_congr (fun i z _ => by rw [Nat.zero_add])] at h
  exact h
theorem op_confused {M : zM} {n nd : Nat} (hS : RS M n nd) (hW : RW M n 60 37 0) (hC : RC M) (hU : RU M) (hO : RO M) (x : Int32) : OpQ (fX11_confused x) (fX12_confused x) M := by
  obtain ⟨l, v, S, hR⟩ := hU
  have hS0 := hS
  have hA : AR M 44 S v := ⟨hC.2.2.2.2.1, Or.inl rfl, hR.2.2.1, hR.2.2.2⟩
  obtain ⟨⟨h8, h6⟩, ⟨s1, s2, s3, s4⟩, hm, -, -⟩ := hS
  rcases split_ix x (n := n) (by omega) with hx | ⟨t, ht, rfl⟩
  · refine opR (r := -1) hO ?_ (fun N f => ?_)
    · unfold fX11_confused
      exact wpO_tk (isThingC0 s1 (by omega) hx) (wpO_ret ⟨rfl, FrC.refl M, rfl, rfl⟩)
    · unfold fX12_confused
      exact wM_thrown (fun N0 f0 a1 a2 _ => wpO_tk (isThingM0 (n := n) (by rw [((E12.ofC f).fr f0).2.1 1 rfl]; exact s2) (by omega) hx) (wpO_ret ⟨rfl, f0, a1, by rw [a2]⟩))
  · have cB := c_conf (told := M.1 38 t) (N := M) hS0 hW hR ht (CE.refl M 60)
    have mB : ∀ N, E12 M N → _ := fun N e => m_conf (N := N) hS0 hA ht (ME.ofE e)
    have hP := fd_inv (f := bS (fun o => decide (o ≠ t ∧ M.1 37 o = 2)) (fun o => v (sE M 37 (M.1 38 t) o))) (s := none) (fun _ s => ∀ b, s = some b → b < n ∧ decide (b ≠ t ∧ M.1 37 b = 2) = true) (fun b z => by cases z) (n := n) (fun i s hi h => bS_P hi h)
    generalize fd (bS (fun o => decide (o ≠ t ∧ M.1 37 o = 2)) (fun o => v (sE M 37 (M.1 38 t) o))) none n = A at cB mB hP
    cases A with
    | none =>
      refine opR (r := -2) hO ?_ (fun N f => ?_)
      · unfold fX11_confused
        refine wpO_fk (by rw [isThingC1 s1 (by omega) ht]; decide) (wpO_tk (zinT (show t < 8 by omega) (by omega)) (wpO_lk ?_))
        rw [nI_clamp (show t < 2 ^ 31 by omega), (hm t ht).1]
        refine wpO_bk (wpO_mono cB ?_)
        rintro ⟨z, z2, N⟩ ⟨h1, -, f1⟩
        dsimp only at h1 f1
        subst h1
        exact wpO_pk (wpO_pk (wpO_fk (show ¬ 0 ≤ oC none by decide) (wpO_ret ⟨rfl, f1.toC, f1.row⟩)))
      · unfold fX12_confused
        refine wM_thrown (fun N0 f0 a1 a2 _ => wpO_fk (by rw [isThingM1 (n := n) (by rw [((E12.ofC f).fr f0).2.1 1 rfl]; exact s2) (by omega) ht]; decide) (wpO_bk (wpO_mono (mB N0 ((E12.ofC f).fr f0)) ?_)))
        rintro ⟨z, N1⟩ ⟨h1, f1⟩
        dsimp only at h1 f1
        subst h1
        exact wpO_pk (wpO_tk rfl (wpO_ret ⟨rfl, f0.trans f1.toM, by rw [f1.row.1, a1], by rw [f1.row.2, a2]⟩))
    | some b =>
      obtain ⟨hb, -⟩ := hP b rfl
      have b0 : 0 ≤ nI b := leT (a := 0) (Nat.zero_le b) (by omega)
      refine opQ (r := nI b) (l := [(1000 + fX12_put (v (sE M 37 (M.1 38 t) b))).toInt64, (1000 + fX12_put (v (sE M 37 (M.1 38 t) t))).toInt64]) (Nat.le_of_ble_eq_true rfl) ?_ (fun N f => ?_)
      · unfold fX11_confused
        refine wpO_fk (by rw [isThingC1 s1 (by omega) ht]; decide) (wpO_tk (zinT (show t < 8 by omega) (by omega)) (wpO_lk ?_))
        rw [nI_clamp (show t < 2 ^ 31 by omega), (hm t ht).1]
        refine wpO_bk (wpO_mono cB ?_)
        rintro ⟨z, z2, N⟩ ⟨h1, h2, f1⟩
        dsimp only at h1 f1
        have h3 : z2 = v (sE M 37 (M.1 38 t) b) := h2 b rfl
        subst h1
        subst h3
        refine wpO_pk (wpO_pk (wpO_tk b0 (wC_begin (fun N1 g1 r1 => wC_tell r1 (Nat.le_of_ble_eq_true rfl) (fun N2 g2 r2 => wpO_bk (wpO_mono (c_mt hS0 hW rfl hR ht (CE.ofC ((f1.toC.trans g1).trans g2))) ?_))))))
        rintro ⟨z, N3⟩ ⟨h3, f3⟩
        dsimp only at h3 f3
        subst h3
        exact wpO_pk (wC_tell (r2.frV f3) (Nat.le_of_ble_eq_true rfl) (fun N4 g4 r4 => wpO_ret ⟨rfl, (((f1.toC.trans g1).trans g2).trans f3.toC).trans g4, r4⟩))
      · unfold fX12_confused
        refine wM_thrown (fun N0 f0 a1 a2 _ => wpO_fk (by rw [isThingM1 (n := n) (by rw [((E12.ofC f).fr f0).2.1 1 rfl]; exact s2) (by omega) ht]; decide) (wpO_bk (wpO_mono (mB N0 ((E12.ofC f).fr f0)) ?_)))
        rintro ⟨z, N1⟩ ⟨h1, f1⟩
        dsimp only at h1 f1
        subst h1
        refine wpO_pk (wpO_fk (show ¬ nI b = -2 from fun z => by
              have q : ¬ nI b < 0 := nI_nneg (by omega)
              rw [z] at q
              exact q (by decide)) (wM_begin (fun N2 f2 r2 => wpO_tk (zinT (show t < 8 by omega) (by omega)) ?_)))
        have g2 := (f0.trans f1.toM).trans f2
        rw [nI_clamp (show t < 2 ^ 31 by omega), ((E12.ofC f).fr g2).1 38 (by omega) (by omega) rfl]
        refine wpO_bk (wpO_mono (m_mt (a := 37) (t := b) rfl (by omega) hA (show b < 8 by omega) (ME.ofE ((E12.ofC f).fr g2))) ?_)
        rintro ⟨z, N3⟩ ⟨h3, f3⟩
        dsimp only at h3 f3
        subst h3
        refine wpO_pk (wM_tell (r2.frQ f3) (Nat.le_of_ble_eq_true rfl) (fun N4 f4 r4 => ?_))
        have g4 := (g2.trans f3.toM).trans f4
        rw [((E12.ofC f).fr g4).1 38 (by omega) (by omega) rfl]
        refine wpO_bk (wpO_mono (m_mt (a := 37) (t := t) rfl (by omega) hA (show t < 8 by omega) (ME.ofE ((E12.ofC f).fr g4))) ?_)
        rintro ⟨z, N5⟩ ⟨h5, f5⟩
        dsimp only at h5 f5
        subst h5
        exact wpO_pk (wM_tell (r4.frQ f5) (Nat.le_of_ble_eq_true rfl) (fun N6 f6 r6 => wpO_ret ⟨rfl, (g4.trans f5.toM).trans f6, r6⟩))
