/-! regains -/
theorem part_bits {M : zM} {n w : Nat} (hW : RW M n w 37 0) (h8 : n ≤ 8) {v : Nat} (hv : v < 2 ^ n) : ((nI v &&& (sHad M n 6 ^^^ (-1))) &&& ((nI v &&& sHow M n 2) ^^^ (-1))) &&& ((nI v &&& sHow M n 1) ^^^ (-1)) = nI v &&& (sHow M n 0 &&& (sHad M n 6 ^^^ (-1))) := by
  apply b_ext
  intro i hi
  simp only [b_and, b_not _ hi, sHad, sHow, bt_bsA (show n ≤ 32 by omega) hi, bt_nI v hi]
  by_cases hin : i < n
  · have h := hW.1 i hin
    simp only [Nat.zero_add] at h
    rcases h with ⟨b1, -⟩ | ⟨b1, -⟩ | ⟨b1, -⟩
    · simp [b1, hin]
    · simp [b1, hin]
    · simp [b1, hin]
  · have : v.testBit i = false := Nat.testBit_lt_two_pow (Nat.lt_of_lt_of_le hv (Nat.pow_le_pow_right (by omega) (by omega)))
    simp [this]
theorem c_regains {M : zM} {n nd d : Nat} (hS : RS M n nd) (hW : RW M n 60 37 0) (hd : d < nd) : wpO (fX11_regains (nI d) M) (fun q => q.1 = M.1 40 d &&& sHow M n 2 ∧ FrC M q.2 ∧ CR q.2 [(M.1 40 d &&& sHow M n 1).toInt64, (M.1 40 d &&& (sHow M n 0 &&& (sHad M n 6 ^^^ (-1)))).toInt64, (sWorth M n (M.1 40 d &&& (sHad M n 6 ^^^ (-1)))).toInt64]) := by
  have h6 := hS.1.2
  obtain ⟨e1, v, -, hv, e2⟩ := hS.2.2.2.2 d hd
  have eb := part_bits hW hS.1.1 hv
  rw [← e2] at eb
  unfold fX11_regains
  refine wpO_fk (by rw [isDeedC1 hS.2.1.2.2.1 (by omega) hd]; decide) (wpO_tk (zinT (show d < 6 by omega) (by omega)) ?_)
  rw [nI_clamp (show d < 2 ^ 31 by omega), e1]
  refine wpO_lk (wpO_ek (cHeld (q := 6) hS hW (FrC.refl M) (by omega)) (wpO_lk (wpO_ek (cInside hS hW (FrC.refl M)) (wpO_lk (wpO_ek (cLost hS hW (FrC.refl M)) (wpO_lk (wC_begin (fun N1 f1 r1 => wC_tell r1 (Nat.le_of_ble_eq_true rfl) (fun N2 f2 r2 => wC_tell r2 (Nat.le_of_ble_eq_true rfl) (fun N3 f3 r3 => wpO_ek (cWorth hS ((f1.trans f2).trans f3) _) (wC_tell r3 (Nat.le_of_ble_eq_true rfl) (fun N4 f4 r4 => wpO_ret ⟨rfl, ((f1.trans f2).trans f3).trans f4, ?_⟩))))))))))))
  have eb2 : ((M.1 40 d &&& (sHad M n (nI 6) ^^^ (-1))) &&& ((M.1 40 d &&& sHow M n 2) ^^^ (-1))) &&& ((M.1 40 d &&& sHow M n 1) ^^^ (-1)) = M.1 40 d &&& (sHow M n 0 &&& (sHad M n 6 ^^^ (-1))) := eb
  rw [eb2] at r4
  exact r4
theorem m_regains {B M : zM} {n nd d : Nat} (e : E12 B M) (hS : RS B n nd) (hdd : d < nd) : wpO (fX12_regains (nI d) M) (fun q => q.1 = B.1 40 d &&& sHow B n 2 ∧ FrM M q.2 ∧ MR q.2 [(B.1 40 d &&& sHow B n 1).toInt64, (B.1 40 d &&& (sHow B n 0 &&& (sHad B n 6 ^^^ (-1)))).toInt64, (sWorth B n (B.1 40 d &&& (sHad B n 6 ^^^ (-1)))).toInt64]) := by
  obtain ⟨⟨h8, h6⟩, ⟨-, hn, -, hd⟩, -⟩ := hS
  unfold fX12_regains
  refine wM_thrown (fun N0 f0 _ _ _ => ?_)
  refine wpO_fk (by rw [isDeedM1 (n := nd) (by rw [(e.fr f0).2.1 2 rfl]; exact hd) (by omega) hdd]; decide) (wM_begin (fun N1 f1 r1 => wpO_tk (zinT (show d < 6 by omega) (by omega)) ?_))
  have g1 := f0.trans f1
  rw [nI_clamp (show d < 2 ^ 31 by omega), (e.fr g1).1 40 (by omega) (by omega) rfl]
  refine wpO_ek (mThose hn h8 (e.fr g1) 1) (wM_tell r1 (Nat.le_of_ble_eq_true rfl) (fun N2 f2 r2 => ?_))
  have g2 := g1.trans f2
  rw [(e.fr g2).1 40 (by omega) (by omega) rfl]
  have eP : fX12_byPeople 37 N2 = some (sHow B n 0 &&& (sHad B n 6 ^^^ (-1))) := by
    unfold fX12_byPeople
    rw [mThose hn h8 (e.fr g2) 0]
    simp only [Option.bind_some]
    rw [mHad hn h8 (e.fr g2) 6]
    rfl
  refine wpO_ek eP (wM_tell r2 (Nat.le_of_ble_eq_true rfl) (fun N3 f3 r3 => ?_))
  have g3 := g2.trans f3
  rw [(e.fr g3).1 40 (by omega) (by omega) rfl]
  refine wpO_ek (mHad hn h8 (e.fr g3) 6) (wpO_ek (mWorth hn h8 (e.fr g3) _) (wM_tell r3 (Nat.le_of_ble_eq_true rfl) (fun N4 f4 r4 => ?_)))
  have g4 := g3.trans f4
  rw [(e.fr g4).1 40 (by omega) (by omega) rfl]
  exact wpO_ek (mThose hn h8 (e.fr g4) 2) (wpO_ret ⟨rfl, g4, r4⟩)
theorem op_regains {M : zM} {n nd : Nat} (hS : RS M n nd) (hW : RW M n 60 37 0) (hO : RO M) (x : Int32) : OpQ (fX11_regains x) (fX12_regains x) M := by
  have h6 := hS.1.2
  rcases split_ix x (n := nd) (by omega) with h | ⟨d, hd, rfl⟩
  · refine opR (r := -1) hO ?_ (fun N f => ?_)
    · unfold fX11_regains
      exact wpO_tk (isDeedC0 hS.2.1.2.2.1 (by omega) h) (wpO_ret ⟨rfl, FrC.refl M, rfl, rfl⟩)
    · unfold fX12_regains
      refine wM_thrown (fun N0 f0 a1 a2 _ => wpO_tk (isDeedM0 (n := nd) (by rw [((E12.ofC f).fr f0).2.1 2 rfl]; exact hS.2.1.2.2.2) (by omega) h) (wpO_ret ⟨rfl, f0, a1, by rw [a2]⟩))
  · exact opQ (Nat.le_of_ble_eq_true rfl) (c_regains hS hW hd) (fun N f => m_regains (E12.ofC f) hS hd)
theorem cPure {f : zM → Option Int32} {M : zM} {r : Int32} (h : f M = some r) : wpO ((f M).map (fun r => (r, M))) (fun q => q.1 = r ∧ FrC M q.2 ∧ q.2.1 3 = M.1 3 ∧ q.2.2.1 4 = M.2.1 4) := ⟨(r, M), by rw [h]; rfl, rfl, FrC.refl M, rfl, rfl⟩
/-! until -/
theorem RW_t {M : zM} {n : Nat} (hW : RW M n 60 37 0) {t : Nat} (ht : t < n) : RWt (M.1 61 t) (M.1 62 t) (M.1 63 t) (M.1 64 t) (M.1 37 t) (M.1 37 (8 + t)) (M.1 37 (16 + t)) := by
  have h := hW.1 t ht
  simp only [Nat.zero_add] at h
  exact h
theorem RWt_in {h p d f how who days : Int32} (q : RWt h p d f how who days) : (how = 2 ∧ ¬ d < 0 ∧ d = days ∧ f = who ∧ ∃ e : Nat, e ≤ 99 ∧ days = nI e) ∨ (how ≠ 2 ∧ d < 0) := by
  rcases q with ⟨rfl, -, -, -, rfl, -⟩ | ⟨rfl, -, -, -, rfl, -⟩ | ⟨rfl, -, ⟨e, he, rfl⟩, -, -, rfl, rfl⟩
  · exact Or.inr ⟨by decide, by decide⟩
  · exact Or.inr ⟨by decide, by decide⟩
  · exact Or.inl ⟨rfl, nI_nneg (by omega), rfl, rfl, e, he, rfl⟩
theorem pX10_daysLeft {w t : Nat} {term : Int32} {M : zM} (hw : zSH w = .inl 10) (ht : t < 8) : fX10_daysLeft w (nI t) term M = some (zmax 1 (term - M.1 (w + 3) t)) := by
  simp only [fX10_daysLeft, hw, if_true, if_pos (zinT ht (by omega)), nI_clamp (show t < 2 ^ 31 by omega)]
theorem pX12_untilOf {t : Nat} {M : zM} (ht : t < 8) : fX12_untilOf (nI t) M = some (zmax 1 (M.1 36 3 - M.1 37 (16 + t))) := by
  simp only [fX12_untilOf, show (16 : Int32) + nI t = nI (16 + t) from nI_add 16 t, if_pos (zinT (show 16 + t < 26 by omega) (by omega)), nI_clamp (show 16 + t < 2 ^ 31 by omega)]
theorem op_until {M : zM} {n nd : Nat} (hS : RS M n nd) (hW : RW M n 60 37 0) (hC : RC M) (hO : RO M) (x : Int32) : OpQ (fun M => (fX11_until x M).map (fun r => (r, M))) (fX12_until x) M := by
  have h8 := hS.1.1
  rcases split_ix x (n := n) (by omega) with h | ⟨t, ht, rfl⟩
  · refine opR (r := -1) hO (cPure (f := fX11_until x) ?_) (fun N f => ?_)
    · unfold fX11_until
      rw [if_pos (isThingC0 hS.2.1.1 (by omega) h)]
    · unfold fX12_until
      refine wM_thrown (fun N0 f0 a1 a2 _ => wpO_tk (isThingM0 (n := n) (by rw [((E12.ofC f).fr f0).2.1 1 rfl]; exact hS.2.1.2.1) (by omega) h) (wpO_ret ⟨rfl, f0, a1, by rw [a2]⟩))
  · refine opR (r := if M.1 37 t = 2 then zmax 1 (M.1 36 3 - M.1 37 (16 + t)) else -2) hO (cPure (f := fX11_until (nI t)) ?_) (fun N f => ?_)
    · unfold fX11_until
      rw [if_neg (by rw [isThingC1 hS.2.1.1 (by omega) ht]; decide), pX10_isIn rfl (show t < 8 by omega)]
      simp only [Option.bind_some]
      rcases RWt_in (RW_t hW ht) with ⟨a1, a2, a3, -⟩ | ⟨a1, a2⟩
      · rw [if_neg a2, if_neg (by decide), pX10_daysLeft rfl (show t < 8 by omega), if_pos a1, hC.2.1]
        simp only [Option.bind_some]
        rw [a3]
      · rw [if_pos a2, if_pos rfl, if_neg a1]
    · unfold fX12_until
      refine wM_thrown (fun N0 f0 a1 a2 _ => wpO_fk (by rw [isThingM1 (n := n) (by rw [((E12.ofC f).fr f0).2.1 1 rfl]; exact hS.2.1.2.1) (by omega) ht]; decide) (wpO_tk (zinT (show t < 26 by omega) (by omega)) ?_))
      rw [nI_clamp (show t < 2 ^ 31 by omega), ((E12.ofC f).fr f0).1 37 (by omega) (by omega) rfl, pX12_untilOf (show t < 8 by omega), ((E12.ofC f).fr f0).1 37 (by omega) (by omega) rfl, ((E12.ofC f).fr f0).2.1 3 rfl]
      by_cases c : M.1 37 t = 2
      · rw [if_pos c, if_pos c]
        exact wpO_ret ⟨rfl, f0, a1, by rw [a2]⟩
      · rw [if_neg c, if_neg c]
        exact wpO_ret ⟨rfl, f0, a1, by rw [a2]⟩
