/-! worth -/
theorem toL {v : Nat} (h : v < 2 ^ 31) : (nI v).toInt64 = lN v := nI_l h
def wtN (M : zM) (t d : Nat) : Nat := if hasB (M.1 40 d) (nI t) = true then 840 / ct (bt (M.1 40 d)) 8 else 0
def smN (f : Nat → Nat) : Nat → Nat
  | 0 => 0
  | n + 1 => smN f n + f n
theorem smN_le {f : Nat → Nat} {c : Nat} : ∀ {n : Nat}, (∀ i, i < n → f i ≤ c) → smN f n ≤ n * c
  | 0, _ => Nat.zero_le _
  | n + 1, h => by
    have := smN_le (f := f) (c := c) (n := n) (fun i hi => h i (by omega))
    have h2 := h n (by omega)
    show smN f n + f n ≤ (n + 1) * c
    rw [Nat.succ_mul]
    omega
theorem bc_need {M : zM} {n nd d : Nat} (hS : RS M n nd) (hd : d < nd) : fJ6_bitCount_0f7a4 (M.1 40 d) = nI (ct (bt (M.1 40 d)) 8) ∧ 0 < ct (bt (M.1 40 d)) 8 ∧ ct (bt (M.1 40 d)) 8 ≤ 8 := by
  obtain ⟨⟨h8, h6⟩, -, -, -, hN⟩ := hS
  obtain ⟨-, v, h0, hv, e⟩ := hN d hd
  have hp := pow_le_256 h8
  have ec : ct (bt (M.1 40 d)) 8 = pcN v := by
    rw [pc_ct, e]
    exact ct_congr (fun t ht => bt_nI v (by omega))
  refine ⟨by rw [ec, bc_small e (by omega)], ?_, ct_le _ 8⟩
  rw [ec]
  have : ∀ v, v < 256 → 0 < v → 0 < pcN v := by decide +kernel
  exact this v (by omega) h0
theorem wtN_le (M : zM) (t d : Nat) : wtN M t d ≤ 840 := by
  unfold wtN
  split
  · exact Nat.div_le_self _ _
  · omega
theorem op_worth {M : zM} {n nd : Nat} (hS : RS M n nd) (hO : RO M) (x : Int32) : OpQ (fX11_worth x) (fX12_worth x) M := by
  have hS0 := hS
  obtain ⟨⟨h8, h6⟩, ⟨s1, s2, s3, s4⟩, -, -, hN⟩ := hS
  rcases split_ix x (n := n) (by omega) with h | ⟨t, ht, rfl⟩
  · refine opR (r := -1) hO ?_ (fun N f => ?_)
    · unfold fX11_worth
      exact wpO_tk (isThingC0 s1 (by omega) h) (wpO_ret ⟨rfl, FrC.refl M, rfl, rfl⟩)
    · unfold fX12_worth
      exact wM_thrown (fun N0 f0 a1 a2 _ => wpO_tk (isThingM0 (n := n) (by rw [((E12.ofC f).fr f0).2.1 1 rfl]; exact s2) (by omega) h) (wpO_ret ⟨rfl, f0, a1, by rw [a2]⟩))
  · have hle : ∀ k, smN (wtN M t) k ≤ k * 840 := fun k => smN_le (fun i _ => wtN_le M t i)
    have eC : fX11_worth_L20 (nI t) 840 M 4000 0 0 = some (lN (smN (wtN M t) nd)) := by
      rw [show fX11_worth_L20 (nI t) 840 M 4000 0 0 = some (lN (smN (wtN M t) nd)) from zfor (fun k (q : Int64 × Int32) => fX11_worth_L20 (nI t) 840 M k q.1 q.2) (fun i => (lN (smN (wtN M t) i), nI i)) nd _
        (fun k i hi => by
          obtain ⟨b1, b2, b3⟩ := bc_need hS0 hi
          have hl := hle i
          simp only [fX11_worth_L20, s3, if_neg (leF hi (by omega)), if_pos (zinT (show i < 6 by omega) (by omega)), nI_clamp (show i < 2 ^ 31 by omega), zlet, (hN i hi).1, b1, isOf_0, nI_1, smN, wtN, if_neg (nI_nle b2 (by omega)), toL (show ct (bt (M.1 40 i)) 8 < 2 ^ 31 by omega)]
          by_cases c : hasB (M.1 40 i) (nI t) = true
          · have e0 : ¬ lN (ct (bt (M.1 40 i)) 8) = 0 := fun z => by have := (lN_eq0 (by omega)).mp z; omega
            have e1 : (840 : Int64) / lN (ct (bt (M.1 40 i)) 8) = lN (840 / ct (bt (M.1 40 i)) 8) := pk_lDiv (a := 840) (by omega) b2 (by omega)
            simp only [c, if_true, Bool.true_eq_false, if_false, if_pos e0, e1, lN_add, Option.bind_some]
          · have c : hasB (M.1 40 i) (nI t) = false := by simpa using c
            simp only [c, if_true, Bool.false_eq_true, if_false, Option.bind_some, Nat.add_zero])
        (fun k => by simp only [fX11_worth_L20, s3, if_pos (leT (Nat.le_refl nd) (by omega))])
        nd 0 4000 (by omega) (by omega)]
    have eM : ∀ N, E12 M N → fX12_worth_L19 (nI t) N 4000 0 0 = some (nI (smN (wtN M t) nd)) := fun N e => by
      have e2 : N.1 36 2 = nI nd := by rw [e.2.1 2 rfl]; exact s4
      rw [show fX12_worth_L19 (nI t) N 4000 0 0 = some (nI (smN (wtN M t) nd)) from zfor (fun k (q : Int32 × Int32) => fX12_worth_L19 (nI t) N k q.1 q.2) (fun i => (nI (smN (wtN M t) i), nI i)) nd _
        (fun k i hi => by
          obtain ⟨b1, b2, b3⟩ := bc_need hS0 hi
          simp only [fX12_worth_L19, e2, if_neg (leF hi (by omega)), if_pos (zinT (show i < 6 by omega) (by omega)), nI_clamp (show i < 2 ^ 31 by omega), zlet, e.1 40 (by omega) (by omega) rfl, b1, has_0, nI_1, smN, wtN]
          by_cases c : hasB (M.1 40 i) (nI t) = true
          · have e1 : (840 : Int32) / nI (ct (bt (M.1 40 i)) 8) = nI (840 / ct (bt (M.1 40 i)) 8) := pk_div (a := 840) (by omega) b2 (by omega)
            simp only [c, if_true, Bool.true_eq_false, if_false, if_pos (nI_ne0 b2 (show ct (bt (M.1 40 i)) 8 < 2 ^ 31 by omega)), e1, nI_add, Option.bind_some]
          · have c : hasB (M.1 40 i) (nI t) = false := by simpa using c
            simp only [c, if_true, Bool.false_eq_true, if_false, Option.bind_some, Nat.add_zero, iadd_0])
        (fun k => by simp only [fX12_worth_L19, e2, if_pos (leT (Nat.le_refl nd) (by omega))])
        nd 0 4000 (by omega) (by omega)]
    have hb := hle nd
    have hb2 : smN (wtN M t) nd ≤ 5040 := by
      have : nd * 840 ≤ 6 * 840 := Nat.mul_le_mul_right _ h6
      omega
    refine opQ (r := 0) (l := [lN (smN (wtN M t) nd / Nat.gcd (smN (wtN M t) nd) 840), lN (840 / Nat.gcd (smN (wtN M t) nd) 840)]) (Nat.le_of_ble_eq_true rfl) ?_ (fun N f => ?_)
    · unfold fX11_worth
      exact wpO_fk (by rw [isThingC1 s1 (by omega) ht]; decide) (wpO_ek eC (wC_begin (fun N1 f1 r1 => wC_frac (b := 840) r1 (Nat.le_of_ble_eq_true rfl) (by omega) (by omega) (by omega) (fun N2 f2 r2 => wpO_ret ⟨rfl, f1.trans f2, r2⟩))))
    · unfold fX12_worth
      refine wM_thrown (fun N0 f0 _ _ _ => wpO_fk (by rw [isThingM1 (n := n) (by rw [((E12.ofC f).fr f0).2.1 1 rfl]; exact s2) (by omega) ht]; decide) (wpO_ek (eM N0 ((E12.ofC f).fr f0)) ?_))
      rw [toL (by omega)]
      exact wM_frac (b := 840) (by omega) (by omega) (by omega) (fun N2 f2 r2 => wpO_ret ⟨rfl, f0.trans f2, r2⟩)
/-! rests -/
theorem imul_comm (x y : Int32) : x * y = y * x := by
  apply Int32.toBitVec_inj.mp
  rw [Int32.toBitVec_mul, Int32.toBitVec_mul, BitVec.mul_comm]
theorem gain_eq (a b v c : Int32) : fX11_restsGain a b v c = fX12_earns a b v c := by
  unfold fX11_restsGain fX12_earns
  simp only [zlet, imul_comm c a]
def bw (v c : Int32) (x y : Nat) : Bool := (List.range 10).all (fun w => decide (fX12_earns (nI w) (nI y) v c ≤ fX12_earns (nI x) (nI y) v c))
theorem bw_iff (v c : Int32) (x y : Nat) : bw v c x y = true ↔ ∀ w, w < 10 → fX12_earns (nI w) (nI y) v c ≤ fX12_earns (nI x) (nI y) v c := by
  unfold bw
  rw [List.all_eq_true]
  constructor
  · intro h w hw
    exact of_decide_eq_true (h w (List.mem_range.mpr hw))
  · intro h w hw
    exact decide_eq_true (h w (List.mem_range.mp hw))
theorem cBw (v c : Int32) (x y : Nat) : fX11_isBestWait (nI x) (nI y) v c = some (if bw v c x y = true then 1 else 0) := by
  have h := zfind (fun k i => fX11_isBestWait_L12 (nI y) v c (fX12_earns (nI x) (nI y) v c) k i) (fun w => ¬ fX12_earns (nI w) (nI y) v c ≤ fX12_earns (nI x) (nI y) v c) (some (.inl 0)) (some (.inr ())) 0 10 4000 (by omega) (by omega)
    (fun k i _ hi hc => by simp only [fX11_isBestWait_L12, if_neg (show ¬ 10 ≤ nI i from leF (a := 10) hi (by omega)), gain_eq, if_neg hc])
    (fun k i _ hi hc => by simp only [fX11_isBestWait_L12, if_neg (show ¬ 10 ≤ nI i from leF (a := 10) hi (by omega)), gain_eq, if_pos (Classical.not_not.mp hc), nI_1])
    (fun k => by simp only [fX11_isBestWait_L12, if_pos (show 10 ≤ nI 10 from leT (a := 10) (Nat.le_refl 10) (by omega))])
  unfold fX11_isBestWait
  simp only [zlet, gain_eq]
  by_cases hb : ∀ w, w < 10 → fX12_earns (nI w) (nI y) v c ≤ fX12_earns (nI x) (nI y) v c
  · have e : fX11_isBestWait_L12 (nI y) v c (fX12_earns (nI x) (nI y) v c) 4000 0 = some (.inr ()) := h.2 (fun i _ hi z => z (hb i hi))
    rw [e, if_pos (show bw v c x y = true from (bw_iff v c x y).mpr hb)]
    rfl
  · have e : fX11_isBestWait_L12 (nI y) v c (fX12_earns (nI x) (nI y) v c) 4000 0 = some (.inl 0) := h.1 (by
      apply Classical.byContradiction
      intro z
      exact hb (fun w hw => Classical.byContradiction (fun q => z ⟨w, Nat.zero_le w, hw, q⟩)))
    rw [e, if_neg (show ¬ bw v c x y = true from fun z => hb ((bw_iff v c x y).mp z))]
    rfl
theorem mBw (v c : Int32) (x y : Nat) : fX12_isBest (nI x) (nI y) v c = some (if bw v c x y = true then 1 else 0) := by
  have h := zfind (fun k i => fX12_isBest_L3 (nI x) (nI y) v c k i) (fun w => ¬ fX12_earns (nI w) (nI y) v c ≤ fX12_earns (nI x) (nI y) v c) (some (.inl 0)) (some (.inr ())) 0 10 4000 (by omega) (by omega)
    (fun k i _ hi hc => by simp only [fX12_isBest_L3, if_neg (show ¬ 9 < nI i from fun q => (ilt_nle 9 (nI i)).mpr (leT (b := 9) (by omega) (by omega)) q), if_neg hc])
    (fun k i _ hi hc => by simp only [fX12_isBest_L3, if_neg (show ¬ 9 < nI i from fun q => (ilt_nle 9 (nI i)).mpr (leT (b := 9) (by omega) (by omega)) q), if_pos (Classical.not_not.mp hc), nI_1])
    (fun k => by simp only [fX12_isBest_L3, if_pos (show 9 < nI 10 from ltT (a := 9) (by omega) (by omega))])
  unfold fX12_isBest
  by_cases hb : ∀ w, w < 10 → fX12_earns (nI w) (nI y) v c ≤ fX12_earns (nI x) (nI y) v c
  · have e : fX12_isBest_L3 (nI x) (nI y) v c 4000 0 = some (.inr ()) := h.2 (fun i _ hi z => z (hb i hi))
    rw [e, if_pos (show bw v c x y = true from (bw_iff v c x y).mpr hb)]
    rfl
  · have e : fX12_isBest_L3 (nI x) (nI y) v c 4000 0 = some (.inl 0) := h.1 (by
      apply Classical.byContradiction
      intro z
      exact hb (fun w hw => Classical.byContradiction (fun q => z ⟨w, Nat.zero_le w, hw, q⟩)))
    rw [e, if_neg (show ¬ bw v c x y = true from fun z => hb ((bw_iff v c x y).mp z))]
    rfl
def rsS (v c : Int32) (x y : Nat) (s : Nat × List Int64) : Nat × List Int64 := if bw v c x y = true ∧ bw v c y x = true then (s.1 + 1, if s.1 = 0 then [(nI x).toInt64, (nI y).toInt64] else s.2) else s
/-- how the fold stands behind x rows -/
def rsI (n : Nat) (s : Nat × List Int64) : Prop := s.1 ≤ n ∧ (s.1 = 0 → s.2 = []) ∧ s.2.length ≤ 2
theorem rsI_step {v c : Int32} {x y n : Nat} {s : Nat × List Int64} (h : rsI n s) : rsI (n + 1) (rsS v c x y s) := by
  obtain ⟨h1, h2, h3⟩ := h
  unfold rsS
  split
  · refine ⟨by show s.1 + 1 ≤ n + 1; omega, fun z => by simp at z, ?_⟩
    show (if s.1 = 0 then [(nI x).toInt64, (nI y).toInt64] else s.2).length ≤ 2
    split
    · exact Nat.le_refl 2
    · exact h3
  · exact ⟨by omega, h2, h3⟩
theorem cRests_in {v c : Int32} {x n : Nat} {M : zM} {s : Nat × List Int64} (hn : n ≤ 200) (h0 : rsI n s) (h1 : CR M s.2) : ∃ N, fX11_rests_L43 v c (nI x) 4000 (nI s.1) 0 M = some (nI (fd (rsS v c x) s 10).1, N) ∧ FrC M N ∧ CR N (fd (rsS v c x) s 10).2 ∧ rsI (n + 10) (fd (rsS v c x) s 10) := by
  refine zforI (fun k (q : Int32 × Int32 × zM) => fX11_rests_L43 v c (nI x) k q.1 q.2.1 q.2.2) (fun i q => q.1 = nI (fd (rsS v c x) s i).1 ∧ q.2.1 = nI i ∧ FrC M q.2.2 ∧ CR q.2.2 (fd (rsS v c x) s i).2 ∧ rsI (n + i) (fd (rsS v c x) s i)) 10 (fun o => ∃ N, o = some (nI (fd (rsS v c x) s 10).1, N) ∧ FrC M N ∧ CR N (fd (rsS v c x) s 10).2 ∧ rsI (n + 10) (fd (rsS v c x) s 10)) ?_ ?_ 10 0 4000 (nI s.1, 0, M) rfl (by omega) ⟨rfl, rfl, FrC.refl M, h1, h0⟩
  · rintro k i ⟨a, b, N⟩ hi ⟨e1, e2, f, r, h⟩
    dsimp only at e1 e2 f r h ⊢
    subst e1 e2
    have hst := rsI_step (v := v) (c := c) (x := x) (y := i) h
    have e3 : fd (rsS v c x) s (i + 1) = rsS v c x i (fd (rsS v c x) s i) := rfl
    rw [e3]
    generalize fd (rsS v c x) s i = s1 at r h hst ⊢
    simp only [fX11_rests_L43, if_neg (show ¬ 10 ≤ nI i from leF (a := 10) hi (by omega)), cBw, Option.bind_some]
    by_cases b1 : bw v c x i = true
    · by_cases b2 : bw v c i x = true
      · rw [if_pos b1, if_neg (by decide), if_pos b2, if_neg (by decide)]
        by_cases z : s1.1 = 0
        · have hl := h.2.1 z
          rw [z, if_pos (show nI 0 = 0 from rfl)]
          obtain ⟨N2, e4, f4, r4⟩ : ∃ N2, ((fX3_tell (nI x).toInt64 N).bind fun M88 => (fX3_tell (nI i).toInt64 M88).bind fun M98 => some M98) = some N2 ∧ FrC N N2 ∧ CR N2 [(nI x).toInt64, (nI i).toInt64] := by
            have hw : wpO ((fX3_tell (nI x).toInt64 N).bind fun M88 => (fX3_tell (nI i).toInt64 M88).bind fun M98 => some M98) (fun N2 => FrC N N2 ∧ CR N2 [(nI x).toInt64, (nI i).toInt64]) := by
              rw [hl] at r
              exact wC_tell r (Nat.le_of_ble_eq_true rfl) (fun N1 f1 r1 => wC_tell r1 (Nat.le_of_ble_eq_true rfl) (fun N2 f2 r2 => wpO_ret ⟨f1.trans f2, r2⟩))
            exact hw
          refine ⟨(nI 1, nI (i + 1), N2), ⟨?_, rfl, f.trans f4, ?_, hst⟩, ?_⟩
          · unfold rsS; rw [if_pos ⟨b1, b2⟩, z]
          · unfold rsS; rw [if_pos ⟨b1, b2⟩, z]; exact r4
          · rw [e4]; simp only [Option.bind_some, zp, show (nI 0 : Int32) + 1 = nI 1 from rfl, nI_1]
        · rw [if_neg (nI_ne0 (by omega) (by have := h.1; omega))]
          refine ⟨(nI (s1.1 + 1), nI (i + 1), N), ⟨?_, rfl, f, ?_, hst⟩, ?_⟩
          · unfold rsS; rw [if_pos ⟨b1, b2⟩]
          · unfold rsS; rw [if_pos ⟨b1, b2⟩]; show CR N (if s1.1 = 0 then _ else s1.2); rw [if_neg z]; exact r
          · simp only [Option.bind_some, zp, nI_1]
      · rw [if_pos b1, if_neg (by decide), if_neg b2, if_pos rfl]
        have e5 : rsS v c x i s1 = s1 := by unfold rsS; rw [if_neg (fun q => b2 q.2)]
        rw [e5] at hst ⊢
        exact ⟨(nI s1.1, nI (i + 1), N), ⟨rfl, rfl, f, r, hst⟩, by simp only [Option.bind_some, zp, nI_1]⟩
    · rw [if_neg b1, if_pos rfl]
      have e5 : rsS v c x i s1 = s1 := by unfold rsS; rw [if_neg (fun q => b1 q.1)]
      rw [e5] at hst ⊢
      exact ⟨(nI s1.1, nI (i + 1), N), ⟨rfl, rfl, f, r, hst⟩, by simp only [Option.bind_some, zp, nI_1]⟩
  · rintro k ⟨a, b, N⟩ ⟨e1, e2, f, r, h⟩
    dsimp only at e1 e2 f r h ⊢
    subst e1 e2
    exact ⟨N, by simp only [fX11_rests_L43, if_pos (show 10 ≤ nI 10 from leT (a := 10) (Nat.le_refl 10) (by omega))], f, r, h⟩
theorem mRests_in {v c : Int32} {x n : Nat} {M : zM} {s : Nat × List Int64} (hn : n ≤ 200) (h0 : rsI n s) (h1 : MR M s.2) : ∃ N, fX12_rests_L46 v c (nI x) 4000 (nI s.1) 0 M = some (nI (fd (rsS v c x) s 10).1, N) ∧ FrM M N ∧ MR N (fd (rsS v c x) s 10).2 ∧ rsI (n + 10) (fd (rsS v c x) s 10) := by
  refine zforI (fun k (q : Int32 × Int32 × zM) => fX12_rests_L46 v c (nI x) k q.1 q.2.1 q.2.2) (fun i q => q.1 = nI (fd (rsS v c x) s i).1 ∧ q.2.1 = nI i ∧ FrM M q.2.2 ∧ MR q.2.2 (fd (rsS v c x) s i).2 ∧ rsI (n + i) (fd (rsS v c x) s i)) 10 (fun o => ∃ N, o = some (nI (fd (rsS v c x) s 10).1, N) ∧ FrM M N ∧ MR N (fd (rsS v c x) s 10).2 ∧ rsI (n + 10) (fd (rsS v c x) s 10)) ?_ ?_ 10 0 4000 (nI s.1, 0, M) rfl (by omega) ⟨rfl, rfl, FrM.refl M, h1, h0⟩
  · rintro k i ⟨a, b, N⟩ hi ⟨e1, e2, f, r, h⟩
    dsimp only at e1 e2 f r h ⊢
    subst e1 e2
    have hst := rsI_step (v := v) (c := c) (x := x) (y := i) h
    have e3 : fd (rsS v c x) s (i + 1) = rsS v c x i (fd (rsS v c x) s i) := rfl
    rw [e3]
    generalize fd (rsS v c x) s i = s1 at r h hst ⊢
    simp only [fX12_rests_L46, if_neg (show ¬ 9 < nI i from fun q => (ilt_nle 9 (nI i)).mpr (leT (b := 9) (by omega) (by omega)) q), mBw, Option.bind_some]
    by_cases b1 : bw v c x i = true
    · by_cases b2 : bw v c i x = true
      · rw [if_pos b1, if_neg (by decide), if_pos b2, if_neg (by decide)]
        by_cases z : s1.1 = 0
        · have hl := h.2.1 z
          rw [z, if_pos (show nI 0 = 0 from rfl)]
          obtain ⟨N2, e4, f4, r4⟩ : ∃ N2, ((fX12_tell (nI x).toInt64 N).bind fun M88 => (fX12_tell (nI i).toInt64 M88).bind fun M98 => some M98) = some N2 ∧ FrM N N2 ∧ MR N2 [(nI x).toInt64, (nI i).toInt64] := by
            have hw : wpO ((fX12_tell (nI x).toInt64 N).bind fun M88 => (fX12_tell (nI i).toInt64 M88).bind fun M98 => some M98) (fun N2 => FrM N N2 ∧ MR N2 [(nI x).toInt64, (nI i).toInt64]) := by
              rw [hl] at r
              exact wM_tell r (Nat.le_of_ble_eq_true rfl) (fun N1 f1 r1 => wM_tell r1 (Nat.le_of_ble_eq_true rfl) (fun N2 f2 r2 => wpO_ret ⟨f1.trans f2, r2⟩))
            exact hw
          refine ⟨(nI 1, nI (i + 1), N2), ⟨?_, rfl, f.trans f4, ?_, hst⟩, ?_⟩
          · unfold rsS; rw [if_pos ⟨b1, b2⟩, z]
          · unfold rsS; rw [if_pos ⟨b1, b2⟩, z]; exact r4
          · rw [e4]; simp only [Option.bind_some, zp, show (nI 0 : Int32) + 1 = nI 1 from rfl, nI_1]
        · rw [if_neg (nI_ne0 (by omega) (by have := h.1; omega))]
          refine ⟨(nI (s1.1 + 1), nI (i + 1), N), ⟨?_, rfl, f, ?_, hst⟩, ?_⟩
          · unfold rsS; rw [if_pos ⟨b1, b2⟩]
          · unfold rsS; rw [if_pos ⟨b1, b2⟩]; show MR N (if s1.1 = 0 then _ else s1.2); rw [if_neg z]; exact r
          · simp only [Option.bind_some, zp, nI_1]
      · rw [if_pos b1, if_neg (by decide), if_neg b2, if_pos rfl]
        have e5 : rsS v c x i s1 = s1 := by unfold rsS; rw [if_neg (fun q => b2 q.2)]
        rw [e5] at hst ⊢
        exact ⟨(nI s1.1, nI (i + 1), N), ⟨rfl, rfl, f, r, hst⟩, by simp only [Option.bind_some, zp, nI_1]⟩
    · rw [if_neg b1, if_pos rfl]
      have e5 : rsS v c x i s1 = s1 := by unfold rsS; rw [if_neg (fun q => b1 q.1)]
      rw [e5] at hst ⊢
      exact ⟨(nI s1.1, nI (i + 1), N), ⟨rfl, rfl, f, r, hst⟩, by simp only [Option.bind_some, zp, nI_1]⟩
  · rintro k ⟨a, b, N⟩ ⟨e1, e2, f, r, h⟩
    dsimp only at e1 e2 f r h ⊢
    subst e1 e2
    exact ⟨N, by simp only [fX12_rests_L46, if_pos (show 9 < nI 10 from ltT (a := 9) (by omega) (by omega))], f, r, h⟩
theorem cRests_out {v c : Int32} {M : zM} (h1 : CR M []) : ∃ N, fX11_rests_L33 v c 4000 0 0 M = some (nI (fd (fun x s => fd (rsS v c x) s 10) (0, []) 10).1, N) ∧ FrC M N ∧ CR N (fd (fun x s => fd (rsS v c x) s 10) (0, []) 10).2 ∧ rsI 100 (fd (fun x s => fd (rsS v c x) s 10) (0, []) 10) := by
  refine zforI (fun k (q : Int32 × Int32 × zM) => fX11_rests_L33 v c k q.1 q.2.1 q.2.2) (fun i q => q.1 = nI (fd (fun x s => fd (rsS v c x) s 10) (0, []) i).1 ∧ q.2.1 = nI i ∧ FrC M q.2.2 ∧ CR q.2.2 (fd (fun x s => fd (rsS v c x) s 10) (0, []) i).2 ∧ rsI (10 * i) (fd (fun x s => fd (rsS v c x) s 10) (0, []) i)) 10 (fun o => ∃ N, o = some (nI (fd (fun x s => fd (rsS v c x) s 10) (0, []) 10).1, N) ∧ FrC M N ∧ CR N (fd (fun x s => fd (rsS v c x) s 10) (0, []) 10).2 ∧ rsI 100 (fd (fun x s => fd (rsS v c x) s 10) (0, []) 10)) ?_ ?_ 10 0 4000 (0, 0, M) rfl (by omega) ⟨rfl, rfl, FrC.refl M, h1, ⟨Nat.le_refl 0, fun _ => rfl, Nat.zero_le 2⟩⟩
  · rintro k i ⟨a, b, N⟩ hi ⟨e1, e2, f, r, h⟩
    dsimp only at e1 e2 f r h ⊢
    subst e1 e2
    have e3 : fd (fun x s => fd (rsS v c x) s 10) ((0 : Nat), ([] : List Int64)) (i + 1) = fd (rsS v c i) (fd (fun x s => fd (rsS v c x) s 10) (0, []) i) 10 := rfl
    rw [e3, show 10 * (i + 1) = 10 * i + 10 by omega]
    generalize fd (fun x s => fd (rsS v c x) s 10) ((0 : Nat), ([] : List Int64)) i = s1 at r h ⊢
    obtain ⟨N2, e4, f4, r4, h4⟩ := cRests_in (v := v) (c := c) (x := i) (by omega) h r
    refine ⟨(nI (fd (rsS v c i) s1 10).1, nI (i + 1), N2), ⟨rfl, rfl, f.trans f4, r4, h4⟩, ?_⟩
    simp only [fX11_rests_L33, if_neg (show ¬ 10 ≤ nI i from leF (a := 10) hi (by omega)), e4, Option.bind_some, zp, nI_1]
  · rintro k ⟨a, b, N⟩ ⟨e1, e2, f, r, h⟩
    dsimp only at e1 e2 f r h ⊢
    subst e1 e2
    exact ⟨N, by simp only [fX11_rests_L33, if_pos (show 10 ≤ nI 10 from leT (a := 10) (Nat.le_refl 10) (by omega))], f, r, h⟩
theorem mRests_out {v c : Int32} {M : zM} (h1 : MR M []) : ∃ N, fX12_rests_L36 v c 4000 0 0 M = some (nI (fd (fun x s => fd (rsS v c x) s 10) (0, []) 10).1, N) ∧ FrM M N ∧ MR N (fd (fun x s => fd (rsS v c x) s 10) (0, []) 10).2 ∧ rsI 100 (fd (fun x s => fd (rsS v c x) s 10) (0, []) 10) := by
  refine zforI (fun k (q : Int32 × Int32 × zM) => fX12_rests_L36 v c k q.1 q.2.1 q.2.2) (fun i q => q.1 = nI (fd (fun x s => fd (rsS v c x) s 10) (0, []) i).1 ∧ q.2.1 = nI i ∧ FrM M q.2.2 ∧ MR q.2.2 (fd (fun x s => fd (rsS v c x) s 10) (0, []) i).2 ∧ rsI (10 * i) (fd (fun x s => fd (rsS v c x) s 10) (0, []) i)) 10 (fun o => ∃ N, o = some (nI (fd (fun x s => fd (rsS v c x) s 10) (0, []) 10).1, N) ∧ FrM M N ∧ MR N (fd (fun x s => fd (rsS v c x) s 10) (0, []) 10).2 ∧ rsI 100 (fd (fun x s => fd (rsS v c x) s 10) (0, []) 10)) ?_ ?_ 10 0 4000 (0, 0, M) rfl (by omega) ⟨rfl, rfl, FrM.refl M, h1, ⟨Nat.le_refl 0, fun _ => rfl, Nat.zero_le 2⟩⟩
  · rintro k i ⟨a, b, N⟩ hi ⟨e1, e2, f, r, h⟩
    dsimp only at e1 e2 f r h ⊢
    subst e1 e2
    have e3 : fd (fun x s => fd (rsS v c x) s 10) ((0 : Nat), ([] : List Int64)) (i + 1) = fd (rsS v c i) (fd (fun x s => fd (rsS v c x) s 10) (0, []) i) 10 := rfl
    rw [e3, show 10 * (i + 1) = 10 * i + 10 by omega]
    generalize fd (fun x s => fd (rsS v c x) s 10) ((0 : Nat), ([] : List Int64)) i = s1 at r h ⊢
    obtain ⟨N2, e4, f4, r4, h4⟩ := mRests_in (v := v) (c := c) (x := i) (by omega) h r
    refine ⟨(nI (fd (rsS v c i) s1 10).1, nI (i + 1), N2), ⟨rfl, rfl, f.trans f4, r4, h4⟩, ?_⟩
    simp only [fX12_rests_L36, if_neg (show ¬ 9 < nI i from fun q => (ilt_nle 9 (nI i)).mpr (leT (b := 9) (by omega) (by omega)) q), e4, Option.bind_some, zp, nI_1]
  · rintro k ⟨a, b, N⟩ ⟨e1, e2, f, r, h⟩
    dsimp only at e1 e2 f r h ⊢
    subst e1 e2
    exact ⟨N, by simp only [fX12_rests_L36, if_pos (show 9 < nI 10 from ltT (a := 9) (by omega) (by omega))], f, r, h⟩
theorem op_rests {M : zM} (hO : RO M) (x y : Int32) : OpQ (fX11_rests x y) (fX12_rests x y) M := by
  have g20 : ∀ z : Int32, fX12_in z 0 20 = if z < 0 then 0 else if 20 < z then 0 else 1 := fun z => rfl
  have g5 : ∀ z : Int32, fX12_in z 0 5 = if z < 0 then 0 else if 5 < z then 0 else 1 := fun z => rfl
  by_cases hx : x < 0 ∨ 20 < x
  · refine opR (r := -1) hO ?_ (fun N f => ?_)
    · unfold fX11_rests
      by_cases h0 : x < 0
      · exact wpO_tk h0 (wpO_ret ⟨rfl, FrC.refl M, rfl, rfl⟩)
      · exact wpO_fk h0 (wpO_tk (hx.resolve_left h0) (wpO_ret ⟨rfl, FrC.refl M, rfl, rfl⟩))
    · unfold fX12_rests
      refine wM_thrown (fun N0 f0 a1 a2 _ => wpO_tk ?_ (wpO_ret ⟨rfl, f0, a1, by rw [a2]⟩))
      rw [g20]
      by_cases h0 : x < 0
      · rw [if_pos h0]
      · rw [if_neg h0, if_pos (hx.resolve_left h0)]
  · have hx0 : ¬ x < 0 := fun z => hx (Or.inl z)
    have hx1 : ¬ 20 < x := fun z => hx (Or.inr z)
    by_cases hy : y < 0 ∨ 5 < y
    · refine opR (r := -1) hO ?_ (fun N f => ?_)
      · unfold fX11_rests
        refine wpO_fk hx0 (wpO_fk hx1 ?_)
        by_cases h0 : y < 0
        · exact wpO_tk h0 (wpO_ret ⟨rfl, FrC.refl M, rfl, rfl⟩)
        · exact wpO_fk h0 (wpO_fk ((ile_nlt y 5).mpr (hy.resolve_left h0)) (wpO_ret ⟨rfl, FrC.refl M, rfl, rfl⟩))
      · unfold fX12_rests
        refine wM_thrown (fun N0 f0 a1 a2 _ => wpO_fk (by rw [g20, if_neg hx0, if_neg hx1]; decide) (wpO_tk ?_ (wpO_ret ⟨rfl, f0, a1, by rw [a2]⟩)))
        rw [g5]
        by_cases h0 : y < 0
        · rw [if_pos h0]
        · rw [if_neg h0, if_pos (hy.resolve_left h0)]
    · have hy0 : ¬ y < 0 := fun z => hy (Or.inl z)
      have hy1 : ¬ 5 < y := fun z => hy (Or.inr z)
      have hl : (fd (fun a s => fd (rsS x y a) s 10) (0, []) 10).2.length ≤ 2 := (fd_inv (f := fun a s => fd (rsS x y a) s 10) (s := ((0 : Nat), ([] : List Int64))) (fun i s => rsI (10 * i) s) ⟨Nat.le_refl 0, fun _ => rfl, Nat.zero_le 2⟩ (n := 10) (fun i s hi h => by
        have := fd_inv (f := rsS x y i) (s := s) (fun j s => rsI (10 * i + j) s) h (n := 10) (fun j s hj h => rsI_step h)
        rw [show 10 * (i + 1) = 10 * i + 10 by omega]
        exact this)).2.2
      refine opQ (r := nI (fd (fun a s => fd (rsS x y a) s 10) (0, []) 10).1) (l := (fd (fun a s => fd (rsS x y a) s 10) (0, []) 10).2) (by omega) ?_ (fun N f => ?_)
      · unfold fX11_rests
        refine wpO_fk hx0 (wpO_fk hx1 (wpO_fk hy0 (wpO_tk ((ilt_nle 5 y).mp hy1) (wC_begin (fun N1 f1 r1 => ?_)))))
        obtain ⟨N2, e, f2, r2, -⟩ := cRests_out (v := x) (c := y) r1
        exact wpO_ek e (wpO_pk (wpO_ret ⟨rfl, f1.trans f2, r2⟩))
      · unfold fX12_rests
        refine wM_thrown (fun N0 f0 _ _ _ => wpO_fk (by rw [g20, if_neg hx0, if_neg hx1]; decide) (wpO_fk (by rw [g5, if_neg hy0, if_neg hy1]; decide) (wM_begin (fun N1 f1 r1 => ?_))))
        obtain ⟨N2, e, f2, r2, -⟩ := mRests_out (v := x) (c := y) r1
        exact wpO_ek e (wpO_pk (wpO_ret ⟨rfl, (f0.trans f1).trans f2, r2⟩))
