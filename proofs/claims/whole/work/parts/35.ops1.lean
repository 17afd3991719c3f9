/-! regains -/
theorem part_bits {M : zM} {n w : Nat} (hW : RW M n w 37 0) (h8 : n ≤ 8) {v : Nat} (hv : v < 2 ^ n) : ((nI v &&& (sHad M n 6 ^^^ (-1))) &&& ((nI v &&& sHow M n 2) ^^^ (-1))) &&& ((nI v &&& sHow M n 1) ^^^ (-1)) = nI v &&& (sHow M n 0 &&& (sHad M n 6 ^^^ (-1))) := by
  apply b_ext
  intro i hi
  simp only [b_and, b_not _ hi, sHad, sHow, bt_bsA (show n ≤ 32 by omega) hi, bt_nI v hi]
  by_cases hin : i < n
  · have h := hW.1 i hin
    simp only [Nat.zero_add] at h
    rcases h with ⟨b1, -⟩ | ⟨b1, -⟩ | ⟨b1, -⟩
    · simp [b1, hin]
    · simp [b1, hin]
    · simp [b1, hin]
  · have : v.testBit i = false := Nat.testBit_lt_two_pow (Nat.lt_of_lt_of_le hv (Nat.pow_le_pow_right (by omega) (by omega)))
    simp [this]
theorem c_regains {M : zM} {n nd d : Nat} (hS : RS M n nd) (hW : RW M n 60 37 0) (hd : d < nd) : wpO (fX11_regains (nI d) M) (fun q => q.1 = M.1 40 d &&& sHow M n 2 ∧ FrC M q.2 ∧ CR q.2 [(M.1 40 d &&& sHow M n 1).toInt64, (M.1 40 d &&& (sHow M n 0 &&& (sHad M n 6 ^^^ (-1)))).toInt64, (sWorth M n (M.1 40 d &&& (sHad M n 6 ^^^ (-1)))).toInt64]) := by
  have h6 := hS.1.2
  obtain ⟨e1, v, -, hv, e2⟩ := hS.2.2.2.2 d hd
  have eb := part_bits hW hS.1.1 hv
  rw [← e2] at eb
  unfold fX11_regains
  refine wpO_fk (by rw [isDeedC1 hS.2.1.2.2.1 (by omega) hd]; decide) (wpO_tk (zinT (show d < 6 by omega) (by omega)) ?_)
  rw [nI_clamp (show d < 2 ^ 31 by omega), e1]
  refine wpO_lk (wpO_ek (cHeld (q := 6) hS hW (FrC.refl M) (by omega)) (wpO_lk (wpO_ek (cInside hS hW (FrC.refl M)) (wpO_lk (wpO_ek (cLost hS hW (FrC.refl M)) (wpO_lk (wC_begin (fun N1 f1 r1 => wC_tell r1 (Nat.le_of_ble_eq_true rfl) (fun N2 f2 r2 => wC_tell r2 (Nat.le_of_ble_eq_true rfl) (fun N3 f3 r3 => wpO_ek (cWorth hS ((f1.trans f2).trans f3) _) (wC_tell r3 (Nat.le_of_ble_eq_true rfl) (fun N4 f4 r4 => wpO_ret ⟨rfl, ((f1.trans f2).trans f3).trans f4, ?_⟩))))))))))))
  have eb2 : ((M.1 40 d &&& (sHad M n (nI 6) ^^^ (-1))) &&& ((M.1 40 d &&& sHow M n 2) ^^^ (-1))) &&& ((M.1 40 d &&& sHow M n 1) ^^^ (-1)) = M.1 40 d &&& (sHow M n 0 &&& (sHad M n 6 ^^^ (-1))) := eb
  rw [eb2] at r4
  exact r4
theorem m_regains {M : zM} {n nd d : Nat} (hn : M.1 36 1 = nI n) (h8 : n ≤ 8) (hd : M.1 36 2 = nI nd) (h6 : nd ≤ 6) (hdd : d < nd) : wpO (fX12_regains (nI d) M) (fun q => q.1 = M.1 40 d &&& sHow M n 2 ∧ FrM M q.2 ∧ MR q.2 [(M.1 40 d &&& sHow M n 1).toInt64, (M.1 40 d &&& (sHow M n 0 &&& (sHad M n 6 ^^^ (-1)))).toInt64, (sWorth M n (M.1 40 d &&& (sHad M n 6 ^^^ (-1)))).toInt64]) := by
  unfold fX12_regains
  refine wM_thrown (fun N0 f0 _ _ _ => ?_)
  refine wpO_fk (by rw [isDeedM1 (n := nd) (by rw [f0.2.2.2.1 2 rfl]; exact hd) (by omega) hdd]; decide) (wM_begin (fun N1 f1 r1 => wpO_tk (zinT (show d < 6 by omega) (by omega)) ?_))
  have g1 := f0.trans f1
  rw [nI_clamp (show d < 2 ^ 31 by omega), g1.2.2.1 40 rfl]
  refine wpO_ek (mThose hn h8 g1 1) (wM_tell r1 (Nat.le_of_ble_eq_true rfl) (fun N2 f2 r2 => ?_))
  have g2 := g1.trans f2
  rw [g2.2.2.1 40 rfl]
  have eP : fX12_byPeople 37 N2 = some (sHow M n 0 &&& (sHad M n 6 ^^^ (-1))) := by
    unfold fX12_byPeople
    rw [mThose hn h8 g2 0]
    simp only [Option.bind_some]
    rw [mHad hn h8 g2 6]
    rfl
  refine wpO_ek eP (wM_tell r2 (Nat.le_of_ble_eq_true rfl) (fun N3 f3 r3 => ?_))
  have g3 := g2.trans f3
  rw [g3.2.2.1 40 rfl]
  refine wpO_ek (mHad hn h8 g3 6) (wpO_ek (mWorth hn h8 g3 _) (wM_tell r3 (Nat.le_of_ble_eq_true rfl) (fun N4 f4 r4 => ?_)))
  have g4 := g3.trans f4
  rw [g4.2.2.1 40 rfl]
  exact wpO_ek (mThose hn h8 g4 2) (wpO_ret ⟨rfl, g4, r4⟩)
