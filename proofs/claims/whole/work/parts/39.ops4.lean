/-! with -/
theorem pow_le_256 {n : Nat} (h : n ≤ 8) : 2 ^ n ≤ 256 := Nat.pow_le_pow_right (n := 2) (by omega) h
theorem zshl_pow {n : Nat} (h : n < 31) : zshl 1 (nI n) = nI (2 ^ n) := by
  apply b_ext
  intro i hi
  rw [bt_shl1 (by omega) hi, bt_nI _ hi, Nat.testBit_two_pow]
  by_cases q : i = n
  · simp [q]
  · simp [q, show ¬ n = i from fun z => q z.symm]
theorem allN {n : Nat} (h : n ≤ 8) : zshl 1 (nI n) - 1 = nI (2 ^ n - 1) := by
  rw [zshl_pow (by omega)]
  have : 0 < 2 ^ n := Nat.pow_pos (by omega)
  obtain ⟨m, hm⟩ : ∃ m, 2 ^ n = m + 1 := ⟨2 ^ n - 1, by omega⟩
  rw [hm, nI_pred]
  rfl
theorem tb_all {n i : Nat} : (2 ^ n - 1).testBit i = decide (i < n) := Nat.testBit_two_pow_sub_one n i
/-- what is not among w, of n things -/
theorem others_eq {n w : Nat} (h8 : n ≤ 8) (hw : w < 2 ^ n) : nI (2 ^ n - 1) &&& (nI w ^^^ (-1)) = nI (2 ^ n - 1 - w) ∧ ∀ x, x < 2 ^ n → nI x &&& (nI (2 ^ n - 1 - w) ^^^ (-1)) = nI x &&& nI w := by
  have hc : ∀ i, (2 ^ n - 1 - w).testBit i = (decide (i < n) && !w.testBit i) := by
    intro i
    have := Nat.testBit_two_pow_sub_succ (n := n) hw i
    rw [show 2 ^ n - (w + 1) = 2 ^ n - 1 - w by omega] at this
    exact this
  refine ⟨?_, fun x hx => ?_⟩
  · apply b_ext
    intro i hi
    rw [b_and, b_not _ hi, bt_nI _ hi, bt_nI _ hi, bt_nI _ hi, tb_all, hc i]
  · apply b_ext
    intro i hi
    rw [b_and, b_not _ hi, b_and, bt_nI _ hi, bt_nI _ hi, bt_nI _ hi, hc i]
    by_cases hin : i < n
    · simp [hin]
    · have : x.testBit i = false := Nat.testBit_lt_two_pow (Nat.lt_of_lt_of_le hx (Nat.pow_le_pow_right (by omega) (by omega)))
      simp [this]
/-- one set more: state is (best, most) -/
def wS (k own : Int32) (c : Int32 → Int32) (x : Nat) (s : Int32 × Int32) : Int32 × Int32 := if nI x &&& own = 0 ∧ fJ6_bitCount_0f7a4 (nI x) ≤ k ∧ (s.2 < c (nI x) ∨ (c (nI x) = s.2 ∧ fJ6_bitCount_0f7a4 (nI x) < fJ6_bitCount_0f7a4 s.1)) then (nI x, c (nI x)) else s
theorem sub_le {x w n : Nat} (hx : x < 2 ^ n) (hw : w < 2 ^ n) (h : nI x &&& nI w = 0) (h8 : n ≤ 8) : x ≤ 2 ^ n - 1 - w := by
  have hp := pow_le_256 h8
  have e : x &&& w = 0 := by
    rw [nI_and] at h
    have hlt : x &&& w < 2 ^ n := Nat.and_lt_two_pow x hw
    have := (nI_eq (a := x &&& w) (b := 0) (by omega) (by omega)).mp h
    exact this
  have hc : ∀ i, (2 ^ n - 1 - w).testBit i = (decide (i < n) && !w.testBit i) := by
    intro i
    have := Nat.testBit_two_pow_sub_succ (n := n) hw i
    rw [show 2 ^ n - (w + 1) = 2 ^ n - 1 - w by omega] at this
    exact this
  have hs : x &&& (2 ^ n - 1 - w) = x := by
    apply Nat.eq_of_testBit_eq
    intro i
    rw [Nat.testBit_and, hc i]
    by_cases hin : i < n
    · have := congrArg (fun z => z.testBit i) e
      simp only [Nat.testBit_and, Nat.zero_testBit] at this
      revert this
      cases x.testBit i <;> cases w.testBit i <;> simp [hin]
    · have : x.testBit i = false := Nat.testBit_lt_two_pow (Nat.lt_of_lt_of_le hx (Nat.pow_le_pow_right (by omega) (by omega)))
      simp [this]
  rw [← hs]
  exact Nat.and_le_right
theorem op_with {M : zM} {n nd : Nat} (hS : RS M n nd) (hW : RW M n 60 37 0) (hO : RO M) (k : Int32) : OpQ (fX11_with k) (fX12_with k) M := by
  have hS0 := hS
  obtain ⟨⟨h8, h6⟩, ⟨s1, s2, s3, s4⟩, -, -, -⟩ := hS
  have hp := pow_le_256 h8
  have hpos : 0 < 2 ^ n := Nat.pow_pos (by omega)
  rcases split_ix k (n := 9) (by omega) with h | ⟨q, hq, rfl⟩
  · refine opR (r := -1) hO ?_ (fun N f => ?_)
    · unfold fX11_with
      by_cases h0 : k < 0
      · exact wpO_tk h0 (wpO_ret ⟨rfl, FrC.refl M, rfl, rfl⟩)
      · have := h.resolve_left h0
        exact wpO_fk h0 (wpO_fk (fun z => by
          have a := Int32.le_iff_toInt_le.mp this
          have b := Int32.le_iff_toInt_le.mp z
          rw [show (nI 9).toInt = 9 by decide +kernel] at a
          rw [show (8 : Int32).toInt = 8 by decide +kernel] at b
          omega) (wpO_ret ⟨rfl, FrC.refl M, rfl, rfl⟩))
    · unfold fX12_with
      exact wM_thrown (fun N0 f0 a1 a2 _ => wpO_tk (in0 (n := 9) (by omega) h) (wpO_ret ⟨rfl, f0, a1, by rw [a2]⟩))
  · obtain ⟨w, hw, ew⟩ := bsN (p := fun t => decide (M.1 37 t = 0 ∧ M.1 37 (8 + t) = nI 6)) (n := n) (by omega)
    have ew : sHad M n 6 = nI w := ew
    obtain ⟨ho, hsub⟩ := others_eq h8 hw
    obtain ⟨c, hc⟩ : ∃ c : Int32 → Int32, ∀ x, c x = fJ6_bitCount_0f7a4 (sCan M nd (nI w ||| x)) := ⟨_, fun _ => rfl⟩
    have hc0 : ∀ x, ∃ v : Nat, v ≤ 6 ∧ c x = nI v := fun x => ⟨_, Nat.le_trans (ct_le _ nd) h6, by rw [hc]; exact bc_bs (by omega)⟩
    have step : ∀ x, x < 2 ^ n → ∀ s : Int32 × Int32, wS (nI q) (nI w) c x s = wS (nI q) (nI w) c x s := fun _ _ _ => rfl
    have eC : fX11_with_L47 (nI q) (nI w) (nI (2 ^ n - 1 - w)) M 4000 (-1) 0 0 = (fun s : Int32 × Int32 => some (s.2, s.1)) (fd (wS (nI q) (nI w) c) (0, -1) (2 ^ n - w)) :=
      zfd (fun m (s : Int32 × Int32) i => fX11_with_L47 (nI q) (nI w) (nI (2 ^ n - 1 - w)) M m s.2 s.1 i) (wS (nI q) (nI w) c) (fun s : Int32 × Int32 => some (s.2, s.1)) (0, -1) (2 ^ n - w) (by omega)
        (fun m i s hi => by
          simp only [fX11_with_L47, if_neg (show ¬ nI (2 ^ n - 1 - w) < nI i from ltF (by omega) (by omega)), hsub i (by omega), cDo hS0 (FrC.refl M), ← hc, Option.bind_some, zlet, zj, nI_1, wS, ite_le]
          by_cases a1 : nI i &&& nI w = 0
          · by_cases a2 : fJ6_bitCount_0f7a4 (nI i) ≤ nI q
            · have a2' : ¬ nI q < fJ6_bitCount_0f7a4 (nI i) := fun z => (ile_nlt _ _).mpr z a2
              by_cases a3 : s.2 < c (nI i)
              · simp [a1, a2, a2', a3, zp]
              · by_cases a4 : c (nI i) = s.2
                · by_cases a5 : fJ6_bitCount_0f7a4 (nI i) < fJ6_bitCount_0f7a4 s.1
                  · simp [a1, a2, a2', a4, a5, zp]
                  · simp [a1, a2, a2', a4, a5, zp]
                · simp [a1, a2, a2', a3, a4, zp]
            · have a2' : nI q < fJ6_bitCount_0f7a4 (nI i) := (ile_nlt _ _).mp a2
              simp [a1, a2, a2', zp]
          · simp [a1, zp])
        (fun m s => by simp only [fX11_with_L47, if_pos (show nI (2 ^ n - 1 - w) < nI (2 ^ n - w) from ltT (by omega) (by omega))])
    have eM : ∀ N, E12 M N → fX12_with_L43 (nI q) (nI w) N 4000 0 (c 0) 1 = some (fd (fun i => wS (nI q) (nI w) c (1 + i)) (0, c 0) (2 ^ n - 1)) := fun N e => by
      have e1 : fX12_all N = nI (2 ^ n - 1) := by unfold fX12_all; rw [e.2.1 1 rfl, s2, allN h8]
      exact zfdA (fun m (s : Int32 × Int32) i => fX12_with_L43 (nI q) (nI w) N m s.1 s.2 i) (wS (nI q) (nI w) c) (fun s => some s) (fun _ _ => True) (0, c 0) 1 (2 ^ n) 4000 (by omega) (by omega) trivial (fun _ _ _ _ _ => trivial)
        (fun m i s h1 h2 _ => by
          simp only [fX12_with_L43, e1, if_neg (show ¬ nI (2 ^ n - 1) < nI i from ltF (by omega) (by omega)), mCan s4 h6 e, ← hc, Option.bind_some, zlet, zj, nI_1, wS]
          by_cases a1 : nI i &&& nI w = 0
          · by_cases a2 : fJ6_bitCount_0f7a4 (nI i) ≤ nI q
            · by_cases a3 : s.2 < c (nI i)
              · have a6 : ¬ c (nI i) < s.2 := fun z => (ilt_nle _ _).mpr (by
                  rw [Int32.le_iff_toInt_le]
                  rw [Int32.lt_iff_toInt_lt] at a3 z
                  omega) z
                have a7 : ¬ c (nI i) = s.2 := fun z => by rw [z] at a3; exact (ilt_nle _ _).mpr (by rw [Int32.le_iff_toInt_le]; omega) a3
                simp [a1, a2, a3, a6, a7, zp]
              · by_cases a4 : c (nI i) = s.2
                · have a6 : ¬ s.2 < s.2 := (ilt_nle _ _).mpr (by rw [Int32.le_iff_toInt_le]; omega)
                  by_cases a5 : fJ6_bitCount_0f7a4 (nI i) < fJ6_bitCount_0f7a4 s.1
                  · simp [a1, a2, a4, a5, a6, zp]
                  · simp [a1, a2, a4, a5, a6, zp]
                · have a6 : c (nI i) < s.2 := by
                    rw [Int32.lt_iff_toInt_lt] at a3 ⊢
                    have : ¬ (c (nI i)).toInt = s.2.toInt := fun z => a4 (Int32.toInt_inj.mp z)
                    omega
                  simp [a1, a2, a3, a4, a6, zp]
            · simp [a1, a2, zp]
          · simp [a1, zp])
        (fun m s _ => by simp only [fX12_with_L43, e1, if_pos (show nI (2 ^ n - 1) < nI (2 ^ n) from ltT (by omega) (by omega))])
    -- both folds give the same
    have first : wS (nI q) (nI w) c 0 (0, -1) = (0, c 0) := by
      obtain ⟨v, hv, e⟩ := hc0 (nI 0)
      have g1 : nI 0 &&& nI w = 0 := by
        apply b_ext
        intro i hi
        rw [b_and, bt_nI _ hi, b_0]
        simp
      have g2 : fJ6_bitCount_0f7a4 (nI 0) ≤ nI q := by
        rw [bc_nI 0 (by omega)]
        exact leT (show pcN 0 ≤ q by rw [show pcN 0 = 0 by decide]; omega) (by omega)
      have g3 : ((0, -1) : Int32 × Int32).2 < c (nI 0) := by
        rw [e]
        rw [Int32.lt_iff_toInt_lt, nI_toInt (by omega)]
        rw [show ((0, -1) : Int32 × Int32).2.toInt = -1 by decide +kernel]
        omega
      unfold wS
      exact if_pos ⟨g1, g2, Or.inl g3⟩
    have e1 : ∀ j, j + 1 ≤ 2 ^ n → fd (wS (nI q) (nI w) c) (0, -1) (j + 1) = fd (fun i => wS (nI q) (nI w) c (1 + i)) (0, c 0) j := by
      intro j
      induction j with
      | zero => intro _; exact first
      | succ j ih =>
        intro hj
        show wS (nI q) (nI w) c (j + 1) (fd (wS (nI q) (nI w) c) (0, -1) (j + 1)) = wS (nI q) (nI w) c (1 + j) (fd (fun i => wS (nI q) (nI w) c (1 + i)) (0, c 0) j)
        rw [ih (by omega), Nat.add_comm 1 j]
    have e2 : ∀ j, 2 ^ n - w ≤ j → j ≤ 2 ^ n → fd (wS (nI q) (nI w) c) (0, -1) j = fd (wS (nI q) (nI w) c) (0, -1) (2 ^ n - w) := by
      intro j
      induction j with
      | zero => intro h1 _; omega
      | succ j ih =>
        intro h1 h2
        rcases Nat.lt_or_ge j (2 ^ n - w) with z | z
        · rw [show j + 1 = 2 ^ n - w by omega]
        · show wS (nI q) (nI w) c j (fd (wS (nI q) (nI w) c) (0, -1) j) = _
          rw [ih z (by omega)]
          unfold wS
          rw [if_neg (fun y => by have := sub_le (by omega) hw y.1 h8; omega)]
    have hE : fd (wS (nI q) (nI w) c) (0, -1) (2 ^ n - w) = fd (fun i => wS (nI q) (nI w) c (1 + i)) (0, c 0) (2 ^ n - 1) := by
      rw [← e2 (2 ^ n) (by omega) (Nat.le_refl _), ← e1 (2 ^ n - 1) (by omega), show 2 ^ n - 1 + 1 = 2 ^ n by omega]
    rw [hE] at eC
    generalize fd (fun i => wS (nI q) (nI w) c (1 + i)) (0, c 0) (2 ^ n - 1) = A at eC eM
    refine opQ (r := A.2) (l := [A.1.toInt64]) (Nat.le_of_ble_eq_true rfl) ?_ (fun N f => ?_)
    · unfold fX11_with
      refine wpO_fk (nI_nneg (by omega)) (wpO_tk (show nI q ≤ 8 from leT (b := 8) (by omega) (by omega)) (wpO_ek (cHeld (q := 6) hS0 hW (FrC.refl M) (by omega)) ?_))
      rw [show sHad M n (nI 6) = nI w from ew, s1, allN h8, ho]
      exact wpO_lk (wpO_ek eC (wpO_pk (wC_begin (fun N1 f1 r1 => wC_tell r1 (Nat.le_of_ble_eq_true rfl) (fun N2 f2 r2 => wpO_ret ⟨rfl, f1.trans f2, r2⟩)))))
    · unfold fX12_with
      refine wM_thrown (fun N0 f0 _ _ _ => wpO_fk (by rw [show (8 : Int32) = nI 9 - 1 by decide +kernel, in1 (by omega) hq]; decide) (wpO_ek (mHad s2 h8 ((E12.ofC f).fr f0) 6) ?_))
      rw [ew]
      refine wpO_ek (mCan s4 h6 ((E12.ofC f).fr f0) _) (wpO_lk ?_)
      have ec : fJ6_bitCount_0f7a4 (sCan M nd (nI w)) = c 0 := by rw [hc, ior_0]
      rw [ec]
      exact wpO_ek (eM N0 ((E12.ofC f).fr f0)) (wpO_pk (wM_begin (fun N1 f1 r1 => wM_tell r1 (Nat.le_of_ble_eq_true rfl) (fun N2 f2 r2 => wpO_ret ⟨rfl, (f0.trans f1).trans f2, r2⟩))))
