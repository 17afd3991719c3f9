/-! thing, deed, row: what the class answers, or that it throws -/
theorem RAll.flag {M Z : zM} {N : Nat} (h : RAll M N) (hk : ∀ q, q ≠ 36 → Z.1 q = M.1 q) (hj : ∀ j, j ≠ 12 → Z.1 36 j = M.1 36 j) (h2 : ∀ q, q ≠ 59 → Z.2.1 q = M.2.1 q) (h3 : Z.2.2 = M.2.2) : RAll Z (N + 1) := by
  obtain ⟨n, nd, h1, hW, hX, hO, hP, hK, hC, hH, hU⟩ := h
  have sm : Sm [] [12] M Z := ⟨fun q a _ => hk q a, fun j hj' => hj j (by simpa using hj'), by rw [h3], by rw [h3]⟩
  obtain ⟨l, hl, c, m⟩ := hO
  exact ⟨n, nd, h1.sm sm rfl rfl, hW.sm sm rfl (by omega), hX.sm sm rfl rfl, ⟨l, hl, c.fr (hk 3 (by omega)) (h2 4 (by omega)), m.fr (hj 11 (by omega)) (h2 42 (by omega))⟩, hP.sm sm rfl rfl, (hK.sm sm rfl rfl).up, hC.sm sm (by rw [hk 0 (by omega)]) (by rw [hk 0 (by omega)]) rfl, hH.sm sm rfl rfl, hU.sm sm rfl rfl⟩
def aThing (x y : Int32) (M : zM) : Option Int32 := if fX11_isThing x M = 0 then none else if y = 0 then some (M.1 6 x.toNatClampNeg) else if y = 1 then some (M.1 7 x.toNatClampNeg) else if y = 2 then some (M.1 61 x.toNatClampNeg) else if y = 3 then some (M.1 62 x.toNatClampNeg) else if y = 4 then some (M.1 63 x.toNatClampNeg) else if y = 5 then some (M.1 64 x.toNatClampNeg) else if y = 6 then fX7_deedsThatNeed x M else none
def Ag36 (M M1 : zM) : Prop := ∀ q, 36 ≤ q → q < 59 → M1.1 q = M.1 q
theorem p_thing {M : zM} {n nd : Nat} (hS : RS M n nd) (hW : RW M n 60 37 0) (x y : Int32) : (aThing x y M = none ∧ ∀ M1, Ag36 M M1 → fX12_thing x y M1 = some (0, zSI (zSI M1 36 12 0) 36 12 1)) ∨ ∃ v, aThing x y M = some v ∧ ∀ M1, Ag36 M M1 → fX12_thing x y M1 = some (v, zSI M1 36 12 0) := by
  obtain ⟨⟨h8, h6⟩, ⟨s1, s2, s3, s4⟩, hm, hw, hd⟩ := hS
  have k36 : ∀ M1, Ag36 M M1 → ∀ j, j ≠ 12 → (zSI M1 36 12 0).1 36 j = M.1 36 j := fun M1 a j hj => by rw [gSI, if_neg (by omega), a 36 (by omega) (by omega)]
  have kq : ∀ M1, Ag36 M M1 → ∀ q, 36 < q → q < 59 → (zSI M1 36 12 0).1 q = M.1 q := fun M1 a q h1 h2 => by rw [zSI_other _ _ _ (by omega), a q (by omega) h2]
  rcases split_ix x (n := n) (by omega) with hx | ⟨t, ht, rfl⟩
  · refine Or.inl ⟨by unfold aThing; rw [if_pos (isThingC0 s1 (by omega) hx)], fun M1 a => ?_⟩
    have e : fX12_isThing x (zSI M1 36 12 0) = 0 := isThingM0 (n := n) (by rw [k36 M1 a 1 (by omega)]; exact s2) (by omega) hx
    simp only [fX12_thing, zlet, zj, e, if_true, fX12_lost]
  · have t31 : t < 2 ^ 31 := by omega
    have c1 : ¬ fX11_isThing (nI t) M = 0 := by rw [isThingC1 s1 (by omega) ht]; decide
    have m1 : ∀ M1, Ag36 M M1 → ¬ fX12_isThing (nI t) (zSI M1 36 12 0) = 0 := fun M1 a => by rw [isThingM1 (n := n) (by rw [k36 M1 a 1 (by omega)]; exact s2) (by omega) ht]; decide
    rcases split_ix y (n := 7) (by omega) with hy | ⟨q, hq, rfl⟩
    · have ne : ∀ q, q < 7 → ¬ y = nI q := fun q hq z => by
        subst z
        rcases hy with z | z
        · exact nI_nneg (by omega) z
        · exact leF hq (by omega) z
      refine Or.inl ⟨?_, fun M1 a => ?_⟩
      · unfold aThing
        rw [if_neg c1, if_neg (show ¬ y = 0 from ne 0 (by omega)), if_neg (show ¬ y = 1 from ne 1 (by omega)), if_neg (show ¬ y = 2 from ne 2 (by omega)), if_neg (show ¬ y = 3 from ne 3 (by omega)), if_neg (show ¬ y = 4 from ne 4 (by omega)), if_neg (show ¬ y = 5 from ne 5 (by omega)), if_neg (show ¬ y = 6 from ne 6 (by omega))]
      · have e : fX12_in y 0 6 = 0 := in0 (n := 7) (by omega) hy
        simp only [fX12_thing, zlet, zj, if_neg (m1 M1 a), e, if_true, fX12_lost]
    · have m2 : ¬ fX12_in (nI q) 0 6 = 0 := by rw [show fX12_in (nI q) 0 6 = 1 from in1 (n := 7) (by omega) hq]; decide
      have in8 : zin (nI t) 8 := zinT (by omega) t31
      have in26 : zin (nI t) 26 := zinT (by omega) t31
      have e8 : (8 : Int32) + nI t = nI (8 + t) := nI_add 8 t
      have e16 : (16 : Int32) + nI t = nI (16 + t) := nI_add 16 t
      have in8t : zin (nI (8 + t)) 26 := zinT (by omega) (by omega)
      have in16t : zin (nI (16 + t)) 26 := zinT (by omega) (by omega)
      have hT := hW.at ht
      have pre : ∀ M1, Ag36 M M1 → ∀ v, (if nI q = 0 then some (M.1 38 t) else if nI q = 1 then some (M.1 39 t) else if nI q = 2 then some (if M.1 37 t = 0 then M.1 37 (8 + t) else -1) else if nI q = 3 then some (if M.1 37 t = 1 then M.1 37 (8 + t) else -1) else if nI q = 4 then some (if M.1 37 t = 2 then M.1 37 (16 + t) else -1) else if nI q = 5 then some (if M.1 37 t = 2 then M.1 37 (8 + t) else -1) else some (bsA (fun d => hasB (M.1 40 d) (nI t)) nd)) = some v → fX12_thing (nI t) (nI q) M1 = some (v, zSI M1 36 12 0) := by
        intro M1 a v hv
        have nb : fX12_neededBy (nI t) (zSI M1 36 12 0) = some (bsA (fun d => hasB (M.1 40 d) (nI t)) nd) := by
          rw [pX12_neededBy (nd := nd) (by rw [k36 M1 a 2 (by omega)]; exact s4) h6, kq M1 a 40 (by omega) (by omega)]
        simp only [fX12_thing, zlet, zj, if_neg (m1 M1 a), if_neg m2, if_pos in8, if_pos in26, e8, e16, if_pos in8t, if_pos in16t, nI_clamp t31, nI_clamp (show 8 + t < 2 ^ 31 by omega), nI_clamp (show 16 + t < 2 ^ 31 by omega), kq M1 a 37 (by omega) (by omega), kq M1 a 38 (by omega) (by omega), kq M1 a 39 (by omega) (by omega), nb, Option.bind_some]
        revert hv
        by_cases d0 : nI q = 0
        · rw [if_pos d0, if_pos d0]; intro hv; cases hv; rfl
        · rw [if_neg d0, if_neg d0]
          by_cases d1 : nI q = 1
          · rw [if_pos d1, if_pos d1]; intro hv; cases hv; rfl
          · rw [if_neg d1, if_neg d1]
            by_cases d2 : nI q = 2
            · rw [if_pos d2, if_pos d2]; intro hv; cases hv; split <;> rfl
            · rw [if_neg d2, if_neg d2]
              by_cases d3 : nI q = 3
              · rw [if_pos d3, if_pos d3]; intro hv; cases hv; split <;> rfl
              · rw [if_neg d3, if_neg d3]
                by_cases d4 : nI q = 4
                · rw [if_pos d4, if_pos d4]; intro hv; cases hv; split <;> rfl
                · rw [if_neg d4, if_neg d4]
                  by_cases d5 : nI q = 5
                  · rw [if_pos d5, if_pos d5]; intro hv; cases hv; split <;> rfl
                  · rw [if_neg d5, if_neg d5]; intro hv; cases hv; rfl
      have v61 : M.1 61 t = if M.1 37 t = 0 then M.1 37 (8 + t) else -1 := by
        rcases hT with ⟨b1, b2, b3, b4, b5, b6⟩ | ⟨b1, b2, b3, b4, b5, b6⟩ | ⟨b1, b2, b7, b3, b4, b5, b6⟩
        · rw [if_pos b1]; exact b3
        · rw [if_neg (by rw [b1]; decide)]; exact b3
        · rw [if_neg (by rw [b1]; decide)]; exact b3
      have v62 : M.1 62 t = if M.1 37 t = 1 then M.1 37 (8 + t) else -1 := by
        rcases hT with ⟨b1, b2, b3, b4, b5, b6⟩ | ⟨b1, b2, b3, b4, b5, b6⟩ | ⟨b1, b2, b7, b3, b4, b5, b6⟩
        · rw [if_neg (by rw [b1]; decide)]; exact b4
        · rw [if_pos b1]; exact b4
        · rw [if_neg (by rw [b1]; decide)]; exact b4
      have v63 : M.1 63 t = if M.1 37 t = 2 then M.1 37 (16 + t) else -1 := by
        rcases hT with ⟨b1, b2, b3, b4, b5, b6⟩ | ⟨b1, b2, b3, b4, b5, b6⟩ | ⟨b1, b2, b7, b3, b4, b5, b6⟩
        · rw [if_neg (by rw [b1]; decide)]; exact b5
        · rw [if_neg (by rw [b1]; decide)]; exact b5
        · rw [if_pos b1]; exact b5
      have v64 : M.1 64 t = if M.1 37 t = 2 then M.1 37 (8 + t) else -1 := by
        rcases hT with ⟨b1, b2, b3, b4, b5, b6⟩ | ⟨b1, b2, b3, b4, b5, b6⟩ | ⟨b1, b2, b7, b3, b4, b5, b6⟩
        · rw [if_neg (by rw [b1]; decide)]; exact b6
        · rw [if_neg (by rw [b1]; decide)]; exact b6
        · rw [if_pos b1]; exact b6
      have need : fX7_deedsThatNeed (nI t) M = some (bsA (fun d => hasB (M.1 40 d) (nI t)) nd) := by
        rw [pX7_deedsThatNeed s3 h6]
        exact congrArg some (bsA_congr (fun d hd' => by rw [(hd d hd').1]))
      refine Or.inr ?_
      unfold aThing
      rw [if_neg c1, nI_clamp t31, (hm t ht).1, (hw t ht).1, v61, v62, v63, v64, need]
      have : q = 0 ∨ q = 1 ∨ q = 2 ∨ q = 3 ∨ q = 4 ∨ q = 5 ∨ q = 6 := by omega
      rcases this with rfl | rfl | rfl | rfl | rfl | rfl | rfl
      · exact ⟨_, rfl, fun M1 a => pre M1 a _ rfl⟩
      · exact ⟨_, rfl, fun M1 a => pre M1 a _ rfl⟩
      · exact ⟨_, rfl, fun M1 a => pre M1 a _ rfl⟩
      · exact ⟨_, rfl, fun M1 a => pre M1 a _ rfl⟩
      · exact ⟨_, rfl, fun M1 a => pre M1 a _ rfl⟩
      · exact ⟨_, rfl, fun M1 a => pre M1 a _ rfl⟩
      · exact ⟨_, rfl, fun M1 a => pre M1 a _ rfl⟩
def aDeed (x y : Int32) (M : zM) : Option Int32 := if fX11_isDeed x M = 0 then none else if y = 0 then some (M.1 8 x.toNatClampNeg) else if y = 1 then some (M.1 8 x.toNatClampNeg &&& (bsA (fun t => decide (M.1 61 t = 6)) 8 ^^^ (-1))) else if y = 2 then (if M.1 8 x.toNatClampNeg &&& (bsA (fun t => decide (M.1 61 t = 6)) 8 ^^^ (-1)) = 0 then some 1 else some 0) else none
theorem p_deed {M : zM} {n nd : Nat} (hS : RS M n nd) (hW : RW M n 60 37 0) (x y : Int32) : (aDeed x y M = none ∧ ∀ M1, Ag36 M M1 → fX12_deed x y M1 = some (0, zSI (zSI M1 36 12 0) 36 12 1)) ∨ ∃ v, aDeed x y M = some v ∧ ∀ M1, Ag36 M M1 → fX12_deed x y M1 = some (v, zSI M1 36 12 0) := by
  obtain ⟨⟨h8, h6⟩, ⟨s1, s2, s3, s4⟩, hm, hw, hd⟩ := hS
  have k36 : ∀ M1, Ag36 M M1 → ∀ j, j ≠ 12 → (zSI M1 36 12 0).1 36 j = M.1 36 j := fun M1 a j hj => by rw [gSI, if_neg (by omega), a 36 (by omega) (by omega)]
  have kq : ∀ M1, Ag36 M M1 → ∀ q, 36 < q → q < 59 → (zSI M1 36 12 0).1 q = M.1 q := fun M1 a q h1 h2 => by rw [zSI_other _ _ _ (by omega), a q (by omega) h2]
  rcases split_ix x (n := nd) (by omega) with hx | ⟨t, ht, rfl⟩
  · have c0 : fX11_isDeed x M = 0 := by
      unfold fX11_isDeed
      rw [s3]
      by_cases z : x < 0
      · rw [if_pos z]
      · rw [if_neg z, if_pos (hx.resolve_left z)]
    refine Or.inl ⟨by unfold aDeed; rw [if_pos c0], fun M1 a => ?_⟩
    have e : fX12_isDeed x (zSI M1 36 12 0) = 0 := isDeedM0 (n := nd) (by rw [k36 M1 a 2 (by omega)]; exact s4) (by omega) hx
    simp only [fX12_deed, zlet, zj, e, if_true, fX12_lost]
  · have t31 : t < 2 ^ 31 := by omega
    have c1 : ¬ fX11_isDeed (nI t) M = 0 := by
      unfold fX11_isDeed
      rw [s3, if_neg (nI_nneg t31), if_neg (leF ht (by omega))]; decide
    have m1 : ∀ M1, Ag36 M M1 → ¬ fX12_isDeed (nI t) (zSI M1 36 12 0) = 0 := fun M1 a => by
      unfold fX12_isDeed
      rw [k36 M1 a 2 (by omega), s4, in1 (by omega) ht]; decide
    rcases split_ix y (n := 3) (by omega) with hy | ⟨q, hq, rfl⟩
    · have ne : ∀ q, q < 3 → ¬ y = nI q := fun q hq z => by
        subst z
        rcases hy with z | z
        · exact nI_nneg (by omega) z
        · exact leF hq (by omega) z
      refine Or.inl ⟨?_, fun M1 a => ?_⟩
      · unfold aDeed
        rw [if_neg c1, if_neg (show ¬ y = 0 from ne 0 (by omega)), if_neg (show ¬ y = 1 from ne 1 (by omega)), if_neg (show ¬ y = 2 from ne 2 (by omega))]
      · have e : fX12_in y 0 2 = 0 := in0 (n := 3) (by omega) hy
        simp only [fX12_deed, zlet, zj, if_neg (m1 M1 a), e, if_true, fX12_lost]
    · have m2 : ¬ fX12_in (nI q) 0 2 = 0 := by rw [show fX12_in (nI q) 0 2 = 1 from in1 (n := 3) (by omega) hq]; decide
      have in6 : zin (nI t) 6 := zinT (by omega) t31
      have hheld : bsA (fun t => decide (M.1 61 t = 6)) 8 = bsA (fun t => decide (M.1 37 t = 0 ∧ M.1 37 (8 + t) = 6)) n := by
        have := RW_held hW h8 (q := 6) (by omega)
        simp only [Nat.zero_add] at this
        exact this
      have had : ∀ M1, Ag36 M M1 → fX12_hadBy 37 6 (zSI M1 36 12 0) = some (bsA (fun t => decide (M.1 61 t = 6)) 8) := fun M1 a => by
        rw [pX12_hadBy (n := n) (by rw [k36 M1 a 1 (by omega)]; exact s2) h8 rfl, kq M1 a 37 (by omega) (by omega), hheld]
      refine Or.inr ?_
      unfold aDeed
      rw [if_neg c1, nI_clamp t31, (hd t ht).1]
      generalize hA : bsA (fun t => decide (M.1 61 t = 6)) 8 = A at had
      have pre : ∀ M1, Ag36 M M1 → fX12_deed (nI t) (nI q) M1 = (if nI q = 0 then some (M.1 40 t, zSI M1 36 12 0) else if nI q = 1 then some (M.1 40 t &&& (A ^^^ (-1)), zSI M1 36 12 0) else if M.1 40 t &&& (A ^^^ (-1)) = 0 then some (1, zSI M1 36 12 0) else some (0, zSI M1 36 12 0)) := fun M1 a => by
        simp only [fX12_deed, zlet, zj, if_neg (m1 M1 a), if_neg m2, if_pos in6, nI_clamp t31, had M1 a, Option.bind_some, kq M1 a 40 (by omega) (by omega)]
      have : q = 0 ∨ q = 1 ∨ q = 2 := by omega
      rcases this with rfl | rfl | rfl
      · exact ⟨_, rfl, fun M1 a => pre M1 a⟩
      · exact ⟨_, rfl, fun M1 a => pre M1 a⟩
      · by_cases z : M.1 40 t &&& (A ^^^ (-1)) = 0
        · refine ⟨1, ?_, fun M1 a => ?_⟩
          · rw [if_neg (by decide), if_neg (by decide), if_pos (by decide), if_pos z]
          · rw [pre M1 a, if_neg (by decide), if_neg (by decide), if_pos z]
        · refine ⟨0, ?_, fun M1 a => ?_⟩
          · rw [if_neg (by decide), if_neg (by decide), if_pos (by decide), if_neg z]
          · rw [pre M1 a, if_neg (by decide), if_neg (by decide), if_neg z]
def aRow (x : Int32) (M : zM) : Option Int64 := if x < 0 then none else if x < M.1 3 1 then some (M.2.1 4 x.toNatClampNeg) else none
theorem p_row {M : zM} (hO : RO M) (x : Int32) : (aRow x M = none ∧ ∀ M1, Ag36 M M1 → M1.2.1 42 = M.2.1 42 → fX12_row x M1 = some (0, zSI (zSI M1 36 12 0) 36 12 1)) ∨ ∃ v, aRow x M = some v ∧ ∀ M1, Ag36 M M1 → M1.2.1 42 = M.2.1 42 → fX12_row x M1 = some (v, zSI M1 36 12 0) := by
  obtain ⟨l, hl, ⟨c1, c2⟩, r1, r2⟩ := hO
  have k36 : ∀ M1, Ag36 M M1 → (zSI M1 36 12 0).1 36 11 = nI l.length := fun M1 a => by rw [gSI, if_neg (by omega), a 36 (by omega) (by omega)]; exact r1
  rcases split_ix x (n := l.length) (by omega) with hx | ⟨t, ht, rfl⟩
  · refine Or.inl ⟨?_, fun M1 a _ => ?_⟩
    · unfold aRow
      rw [c1]
      by_cases z : x < 0
      · rw [if_pos z]
      · rw [if_neg z, if_neg ((ilt_nle _ _).mpr (hx.resolve_left z))]
    · have e : fX12_in x 0 (nI l.length - 1) = 0 := in0 (by omega) hx
      simp only [fX12_row, zlet, k36 M1 a, e, if_true, fX12_lost]
      rfl
  · have t31 : t < 2 ^ 31 := by omega
    have hv := List.getElem?_eq_getElem ht
    refine Or.inr ⟨l[t], ?_, fun M1 a h42 => ?_⟩
    · unfold aRow
      rw [c1, if_neg (nI_nneg t31), if_pos (ltT ht (by omega)), nI_clamp t31, c2 t _ hv]
    · have e : ¬ fX12_in (nI t) 0 (nI l.length - 1) = 0 := by rw [in1 (by omega) ht]; decide
      simp only [fX12_row, zlet, k36 M1 a, if_neg e, if_pos (zinT (show t < 16 by omega) t31), nI_clamp t31]
      show some (M1.2.1 42 t, _) = _
      rw [h42, r2 t _ hv]
