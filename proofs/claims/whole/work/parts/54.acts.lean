/-! ACTS: one step on both sides -/
def mix (C R : zM) : zM := (fun k => if 36 ≤ k ∧ k < 59 then R.1 k else C.1 k, R.2)
theorem mixC (C R : zM) {k : Nat} (h : k < 36 ∨ 59 ≤ k) : (mix C R).1 k = C.1 k := if_neg (by omega)
theorem mixR (C R : zM) {k : Nat} (h : 36 ≤ k ∧ k < 59) : (mix C R).1 k = R.1 k := if_pos h
def AgC (B C : zM) (w n : Nat) : Prop := C.1 5 3 = nI n ∧ ∀ c, c ≤ 4 → C.1 (w + c) = B.1 (w + c)
def AgR (B R : zM) (a n : Nat) : Prop := R.1 36 1 = nI n ∧ R.1 a = B.1 a
def Wch (w : Nat) (C D : zM) : Prop := D.2 = C.2 ∧ ∀ k, k < w ∨ w + 4 < k → D.1 k = C.1 k
theorem Wch.refl (w : Nat) (C : zM) : Wch w C C := ⟨rfl, fun _ _ => rfl⟩
theorem Wch.trans {w : Nat} {A B C : zM} (h : Wch w A B) (g : Wch w B C) : Wch w A C := ⟨g.1.trans h.1, fun k hk => (g.2 k hk).trans (h.2 k hk)⟩
theorem Wch.SI {w : Nat} (C : zM) {k : Nat} (j : Nat) (x : Int32) (h : w ≤ k) (h2 : k ≤ w + 4) : Wch w C (zSI C k j x) := ⟨rfl, fun a ha => zSI_other C j x (by omega)⟩
theorem RW.put {B D : zM} {n w a t : Nat} (h : RW B n w a 0) (h8 : n ≤ 8) (ht : t < n) (hC : ∀ c, 1 ≤ c → c ≤ 4 → ∀ s, s < 8 → s ≠ t → D.1 (w + c) s = B.1 (w + c) s) (hR : ∀ j, j < 24 → j % 8 ≠ t → D.1 a j = B.1 a j) (h4 : D.1 w 4 = D.1 a 24) (h5 : D.1 w 5 = D.1 a 25) (hT : RWt (D.1 (w + 1) t) (D.1 (w + 2) t) (D.1 (w + 3) t) (D.1 (w + 4) t) (D.1 a t) (D.1 a (8 + t)) (D.1 a (16 + t))) : RW D n w a 0 := by
  obtain ⟨g1, g2, g3, g4⟩ := h
  refine ⟨fun s hs => ?_, fun s s1 s2 => ?_, ?_, ?_⟩
  · simp only [Nat.zero_add]
    by_cases c : s = t
    · subst c; exact hT
    · rw [hC 1 (by omega) (by omega) s (by omega) c, hC 2 (by omega) (by omega) s (by omega) c, hC 3 (by omega) (by omega) s (by omega) c, hC 4 (by omega) (by omega) s (by omega) c, hR s (by omega) (by omega), hR (8 + s) (by omega) (by omega), hR (16 + s) (by omega) (by omega)]
      have := g1 s hs
      simp only [Nat.zero_add] at this
      exact this
  · rw [hC 1 (by omega) (by omega) s (by omega) (by omega), hC 2 (by omega) (by omega) s (by omega) (by omega), hC 3 (by omega) (by omega) s (by omega) (by omega), hC 4 (by omega) (by omega) s (by omega) (by omega)]
    exact g2 s s1 s2
  · rw [Nat.zero_add]; exact h4
  · rw [Nat.zero_add]; exact h5
theorem RW.at {M : zM} {n w a t : Nat} (hW : RW M n w a 0) (ht : t < n) : RWt (M.1 (w + 1) t) (M.1 (w + 2) t) (M.1 (w + 3) t) (M.1 (w + 4) t) (M.1 a t) (M.1 a (8 + t)) (M.1 a (16 + t)) := by
  have h := hW.1 t ht
  simp only [Nat.zero_add] at h
  exact h
def gsR (R : zM) (a t : Nat) (how who : Int32) : zM := zSI (zSI (zSI R a t how) a (8 + t) who) a (16 + t) 0
theorem gsR_row (R : zM) (a t : Nat) (how who : Int32) (j : Nat) : (gsR R a t how who).1 a j = if j = 16 + t then 0 else if j = 8 + t then who else if j = t then how else R.1 a j := by
  unfold gsR
  rw [gSI, gSI, gSI]
  simp
theorem gsR_other (R : zM) {a t k : Nat} (how who : Int32) (h : k ≠ a) : (gsR R a t how who).1 k = R.1 k := by
  unfold gsR
  rw [zSI_other _ _ _ h, zSI_other _ _ _ h, zSI_other _ _ _ h]
theorem gsR_two (R : zM) (a t : Nat) (how who : Int32) : (gsR R a t how who).2 = R.2 := rfl
theorem isPe0 {x : Int32} (h : x < 0 ∨ nI 6 ≤ x) : fX11_isPerson x = 0 := isPl0 h
theorem isPe1 {a : Nat} (h : a < 6) : fX11_isPerson (nI a) = 1 := isPl1 h
theorem isSo0 {x : Int32} (h : x < 0 ∨ nI 7 ≤ x) : fX11_isSomebody x = 0 := by
  unfold fX11_isSomebody
  by_cases h0 : x < 0
  · rw [if_pos h0]
  · rw [if_neg h0]
    have := (out_lt (n := 7) (by omega) h h0).2
    first
      | rw [if_pos (show 6 < x from this)]
      | rw [if_neg ((ile_nlt x 6).mpr (show 6 < x from this))]
theorem isSo1 {a : Nat} (h : a < 7) : fX11_isSomebody (nI a) = 1 := by
  unfold fX11_isSomebody
  rw [if_neg (nI_nneg (by omega))]
  first
    | rw [if_neg (show ¬ 6 < nI a from ltF (a := 6) (b := a) (by omega) (by omega))]
    | rw [if_pos (show nI a ≤ 6 from leT (b := 6) (by omega) (by omega))]
theorem isSp0 {x : Int32} (h : x < 0 ∨ nI 100 ≤ x) : fX11_isSpan x = 0 := by
  unfold fX11_isSpan
  by_cases h0 : x < 0
  · rw [if_pos h0]
  · rw [if_neg h0]
    have := (out_lt (n := 100) (by omega) h h0).2
    first
      | rw [if_pos (show 99 < x from this)]
      | rw [if_neg ((ile_nlt x 99).mpr (show 99 < x from this))]
theorem isSp1 {a : Nat} (h : a < 100) : fX11_isSpan (nI a) = 1 := by
  unfold fX11_isSpan
  rw [if_neg (nI_nneg (by omega))]
  first
    | rw [if_neg (show ¬ 99 < nI a from ltF (a := 99) (b := a) (by omega) (by omega))]
    | rw [if_pos (show nI a ≤ 99 from leT (b := 99) (by omega) (by omega))]
theorem perf_l (w : Nat) (x y : Int32) (C : zM) : fX11_perform w 108 x y C = if fX11_isThing x C = 0 then some (-1, C) else if fX11_isPlace y = 0 then some (-1, C) else if zSH w = .inl 10 then (fX10_lose w x y C).bind (fun q => zp q fun r M => some (r, M)) else none := by
  simp only [fX11_perform, show ¬ (108 : Int32) = 99 by decide, show ¬ (108 : Int32) = 100 by decide, show ¬ (108 : Int32) = 101 by decide, show ¬ (108 : Int32) = 102 by decide, show ¬ (108 : Int32) = 103 by decide, show ¬ (108 : Int32) = 104 by decide, show ¬ (108 : Int32) = 105 by decide, show ¬ (108 : Int32) = 106 by decide, show ¬ (108 : Int32) = 107 by decide, if_false, if_true]
theorem perf_f (w : Nat) (x y : Int32) (C : zM) : fX11_perform w 102 x y C = if fX11_isPerson x = 0 then some (-1, C) else if fX11_isThing y C = 0 then some (-1, C) else if zSH w = .inl 10 then (fX10_bringIn w y x C).bind (fun q => zp q fun r M => some (r, M)) else none := by
  simp only [fX11_perform, show ¬ (102 : Int32) = 99 by decide, show ¬ (102 : Int32) = 100 by decide, show ¬ (102 : Int32) = 101 by decide, if_false, if_true]
theorem perf_g (w : Nat) (x y : Int32) (C : zM) : fX11_perform w 103 x y C = if fX11_isThing x C = 0 then some (-1, C) else if fX11_isSomebody y = 0 then some (-1, C) else if zSH w = .inl 10 then (fX10_hand w x y C).bind (fun q => zp q fun r M => some (r, M)) else none := by
  simp only [fX11_perform, show ¬ (103 : Int32) = 99 by decide, show ¬ (103 : Int32) = 100 by decide, show ¬ (103 : Int32) = 101 by decide, show ¬ (103 : Int32) = 102 by decide, if_false, if_true]
theorem perf_c (w : Nat) (x y : Int32) (C : zM) : fX11_perform w 99 x y C = if fX11_isSomebody x = 0 then some (-1, C) else if fX11_isDescription y = 0 then some (-1, C) else (fX11_handOut w x y C).bind (fun q => zp q fun r M => some (r, M)) := by
  simp only [fX11_perform, if_true]
theorem perf_d (w : Nat) (x y : Int32) (C : zM) : fX11_perform w 100 x y C = if fX11_isSpan x = 0 then some (-1, C) else if zSH w = .inl 10 then (fX10_passDays w x (C.1 0 17) C).bind (fun q => zp q fun r M => some (fJ6_bitCount_0f7a4 r, M)) else none := by
  simp only [fX11_perform, show ¬ (100 : Int32) = 99 by decide, if_false, if_true]
section ACT
variable {B C : zM} {n w a : Nat}
theorem bc_nneg {p : Nat → Bool} (h8 : n ≤ 8) : ¬ fJ6_bitCount_0f7a4 (bsA p n) < 0 := by
  rw [bc_bs h8]
  exact nI_nneg (by have := ct_le p n; omega)
theorem A_lose (h8 : n ≤ 8) (hW : RW B n w a 0) (hw : zSH w = .inl 10) (hw6 : 60 ≤ w) (ha : zSH a = .inr (0, 26)) (ha3 : 36 < a ∧ a < 59) (hC : AgC B C w n) (x y : Int32) :
    (∃ r, (r = -1 ∨ r = -2) ∧ fX11_perform w 108 x y C = some (r, C) ∧ ∀ R, AgR B R a n → fX12_refusesLoss a x y R = some r) ∨
    (∃ t r D, t < n ∧ x = nI t ∧ ¬ r < 0 ∧ fX11_perform w 108 x y C = some (r, D) ∧ Wch w C D ∧ ∀ R, AgR B R a n → fX12_refusesLoss a x y R = some 0 ∧ RW (mix D (gsR R a t 1 y)) n w a 0 ∧ ∃ A, fX12_those a 1 (gsR R a t 1 y) = some A ∧ fJ6_bitCount_0f7a4 A = r) := by
  have hla : zLen a = 26 := zLen_of ha
  rw [perf_l]
  rcases split_ix x (n := n) (by omega) with hx | ⟨t, ht, rfl⟩
  · refine Or.inl ⟨-1, Or.inl rfl, by rw [if_pos (isThingC0 hC.1 (by omega) hx)], fun R hR => ?_⟩
    unfold fX12_refusesLoss
    rw [if_pos (isThingM0 hR.1 (by omega) hx)]
  · have c1 : ¬ fX11_isThing (nI t) C = 0 := by rw [isThingC1 hC.1 (by omega) ht]; decide
    have m1 : ∀ R, AgR B R a n → ¬ fX12_isThing (nI t) R = 0 := fun R hR => by rw [isThingM1 hR.1 (by omega) ht]; decide
    rcases split_ix y (n := 6) (by omega) with hy | ⟨p, hp, rfl⟩
    · refine Or.inl ⟨-1, Or.inl rfl, by rw [if_neg c1, if_pos (isPl0 hy)], fun R hR => ?_⟩
      unfold fX12_refusesLoss
      rw [if_neg (m1 R hR), if_pos (show fX12_in y 0 5 = 0 from in0 (n := 6) (by omega) hy)]
    · have c2 : ¬ fX11_isPlace (nI p) = 0 := by rw [isPl1 hp]; decide
      have m2 : ¬ fX12_in (nI p) 0 5 = 0 := by rw [show fX12_in (nI p) 0 5 = 1 from in1 (n := 6) (by omega) hp]; decide
      rw [if_neg c1, if_neg c2, if_pos hw]
      have t8 : t < 8 := by omega
      have t31 : t < 2 ^ 31 := by omega
      have eC1 : C.1 (w + 1) t = B.1 (w + 1) t := by rw [hC.2 1 (by omega)]
      have href : ∀ R, AgR B R a n → fX12_refusesLoss a (nI t) (nI p) R = if B.1 a t = 0 then some 0 else some (-2) := fun R hR => by
        unfold fX12_refusesLoss
        rw [if_neg (m1 R hR), if_neg m2, hla, if_pos ha, if_pos (zinT (show t < 26 by omega) t31), nI_clamp t31, hR.2]
      have hcl : fX10_lose w (nI t) (nI p) C = if 0 ≤ B.1 (w + 1) t then (fX10_lost w (zSI (zSI C (w + 1) t (-1)) (w + 2) t (nI p))).bind (fun r3 => some (fJ6_bitCount_0f7a4 r3, zSI (zSI C (w + 1) t (-1)) (w + 2) t (nI p))) else some (-2, C) := by
        simp only [fX10_lose, hw, if_true, if_pos (zinT t8 t31), nI_clamp t31, zlet, eC1]
      rw [hcl]
      have hT := hW.at ht
      have yes : B.1 a t = 0 → (∃ q : Nat, q ≤ 6 ∧ B.1 (w + 1) t = nI q) → B.1 (w + 3) t = -1 → B.1 (w + 4) t = -1 → (∃ t' r D, t' < n ∧ nI t = nI t' ∧ ¬ r < 0 ∧ ((if 0 ≤ B.1 (w + 1) t then (fX10_lost w (zSI (zSI C (w + 1) t (-1)) (w + 2) t (nI p))).bind (fun r3 => some (fJ6_bitCount_0f7a4 r3, zSI (zSI C (w + 1) t (-1)) (w + 2) t (nI p))) else some (-2, C)).bind (fun q => zp q fun r M => some (r, M))) = some (r, D) ∧ Wch w C D ∧ ∀ R, AgR B R a n → fX12_refusesLoss a (nI t) (nI p) R = some 0 ∧ RW (mix D (gsR R a t' 1 (nI p))) n w a 0 ∧ ∃ A, fX12_those a 1 (gsR R a t' 1 (nI p)) = some A ∧ fJ6_bitCount_0f7a4 A = r) := by
        intro e0 eq e3 e4
        obtain ⟨q, hq, eq⟩ := eq
        generalize hD : zSI (zSI C (w + 1) t (-1)) (w + 2) t (nI p) = D
        have hWD : ∀ R, AgR B R a n → RW (mix D (gsR R a t 1 (nI p))) n w a 0 := fun R hR => by
          have dC : ∀ c, c ≤ 4 → (mix D (gsR R a t 1 (nI p))).1 (w + c) = D.1 (w + c) := fun c _ => mixC _ _ (by omega)
          have dR : (mix D (gsR R a t 1 (nI p))).1 a = (gsR R a t 1 (nI p)).1 a := mixR _ _ (by omega)
          have d0 : (mix D (gsR R a t 1 (nI p))).1 w = D.1 w := mixC _ _ (by omega)
          have eD : ∀ c s, D.1 (w + c) s = if c = 2 ∧ s = t then nI p else if c = 1 ∧ s = t then -1 else C.1 (w + c) s := fun c s => by
            subst hD
            rw [gSI, gSI]
            simp
          have hw4 : D.1 w = C.1 w := by subst hD; rw [zSI_other _ _ _ (by omega), zSI_other _ _ _ (by omega)]
          have hcw : C.1 w = B.1 w := hC.2 0 (by omega)
          refine hW.put h8 ht (fun c c1 c4 s hs hst => ?_) (fun j hj hjt => ?_) ?_ ?_ ?_
          · rw [dC c c4, eD, if_neg (fun z => hst z.2), if_neg (fun z => hst z.2), hC.2 c c4]
          · rw [dR, gsR_row, if_neg (by omega), if_neg (by omega), if_neg (by omega), hR.2]
          · rw [d0, dR, hw4, hcw, gsR_row, if_neg (by omega), if_neg (by omega), if_neg (by omega), hR.2]
            have := hW.2.2.1; rw [Nat.zero_add] at this; exact this
          · rw [d0, dR, hw4, hcw, gsR_row, if_neg (by omega), if_neg (by omega), if_neg (by omega), hR.2]
            have := hW.2.2.2; rw [Nat.zero_add] at this; exact this
          · rw [dC 1 (by omega), dC 2 (by omega), dC 3 (by omega), dC 4 (by omega), dR, eD, eD, eD, eD, gsR_row, gsR_row, gsR_row]
            refine Or.inr (Or.inl ⟨?_, ⟨p, hp, ?_⟩, ?_, ?_, ?_, ?_⟩)
            · simp [show ¬ t = 16 + t by omega, show ¬ t = 8 + t by omega]
            · simp [show ¬ 8 + t = 16 + t by omega]
            · simp
            · simp [show ¬ 8 + t = 16 + t by omega]
            · simp [hC.2 3, e3]
            · simp [hC.2 4, e4]
        have hlost : fX10_lost w D = some (bsA (fun s => !decide (D.1 (w + 2) s < 0)) 8) := pX10_lost hw
        refine ⟨t, fJ6_bitCount_0f7a4 (bsA (fun s => !decide (D.1 (w + 2) s < 0)) 8), D, ht, rfl, ?_, ?_, ?_, fun R hR => ⟨?_, hWD R hR, ?_⟩⟩
        rotate_left
        · rw [if_pos (by rw [eq]; exact nI_pos' (by omega)), hlost]
          rfl
        · subst hD; exact (Wch.SI C _ _ (by omega) (by omega)).trans (Wch.SI _ _ _ (by omega) (by omega))
        · rw [href R hR, if_pos e0]
        · refine ⟨_, pX12_those (n := n) (by rw [gsR_other _ _ _ (by omega)]; exact hR.1) h8 ha, ?_⟩
          have := RW_lost (hWD R hR) h8
          rw [mixC _ _ (by omega)] at this
          rw [this, mixR _ _ (by omega)]
          simp only [Nat.zero_add]
        · have := RW_lost (hWD (zSI B 36 1 (nI n)) ⟨by rw [gSI, if_pos ⟨rfl, rfl⟩], by rw [zSI_other _ _ _ (by omega)]⟩) h8
          rw [mixC _ _ (by omega)] at this
          rw [this]
          exact bc_nneg h8
      rcases hT with ⟨b1, ⟨q, hq, b2⟩, b3, b4, b5, b6⟩ | ⟨b1, b2, b3, b4, b5, b6⟩ | ⟨b1, b2, -, b3, b4, b5, b6⟩
      · exact Or.inr (yes b1 ⟨q, hq, by rw [b3, b2]⟩ b5 b6)
      · refine Or.inl ⟨-2, Or.inr rfl, ?_, fun R hR => by rw [href R hR, b1, if_neg (by decide)]⟩
        rw [b3, if_neg (by decide)]; rfl
      · refine Or.inl ⟨-2, Or.inr rfl, ?_, fun R hR => by rw [href R hR, b1, if_neg (by decide)]⟩
        rw [b3, if_neg (by decide)]; rfl
end ACT
