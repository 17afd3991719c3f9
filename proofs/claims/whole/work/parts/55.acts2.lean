section ACT2
variable {B C : zM} {n w a : Nat}
theorem A_find (h8 : n ≤ 8) (hW : RW B n w a 0) (hw : zSH w = .inl 10) (hw6 : 60 ≤ w) (ha : zSH a = .inr (0, 26)) (ha3 : 36 < a ∧ a < 59) (hC : AgC B C w n) (x y : Int32) :
    (∃ r, (r = -1 ∨ r = -2) ∧ fX11_perform w 102 x y C = some (r, C) ∧ ∀ R, AgR B R a n → fX12_refusesFind a x y R = some r) ∨
    (∃ t r D, t < n ∧ y = nI t ∧ ¬ r < 0 ∧ fX11_perform w 102 x y C = some (r, D) ∧ Wch w C D ∧ ∀ R, AgR B R a n → fX12_refusesFind a x y R = some 0 ∧ RW (mix D (gsR R a t 2 x)) n w a 0 ∧ ∃ A, fX12_those a 2 (gsR R a t 2 x) = some A ∧ fJ6_bitCount_0f7a4 A = r) := by
  have hla : zLen a = 26 := zLen_of ha
  rw [perf_f]
  rcases split_ix y (n := n) (by omega) with hy | ⟨t, ht, rfl⟩
  · refine Or.inl ⟨-1, Or.inl rfl, ?_, fun R hR => ?_⟩
    · by_cases c : fX11_isPerson x = 0
      · rw [if_pos c]
      · rw [if_neg c, if_pos (isThingC0 hC.1 (by omega) hy)]
    · unfold fX12_refusesFind
      rw [if_pos (isThingM0 hR.1 (by omega) hy)]
  · have c1 : ¬ fX11_isThing (nI t) C = 0 := by rw [isThingC1 hC.1 (by omega) ht]; decide
    have m1 : ∀ R, AgR B R a n → ¬ fX12_isThing (nI t) R = 0 := fun R hR => by rw [isThingM1 hR.1 (by omega) ht]; decide
    rcases split_ix x (n := 6) (by omega) with hx | ⟨p, hp, rfl⟩
    · refine Or.inl ⟨-1, Or.inl rfl, by rw [if_pos (isPe0 hx)], fun R hR => ?_⟩
      unfold fX12_refusesFind
      rw [if_neg (m1 R hR), if_pos (show fX12_in x 0 5 = 0 from in0 (n := 6) (by omega) hx)]
    · have c2 : ¬ fX11_isPerson (nI p) = 0 := by rw [isPe1 hp]; decide
      have m2 : ¬ fX12_in (nI p) 0 5 = 0 := by rw [show fX12_in (nI p) 0 5 = 1 from in1 (n := 6) (by omega) hp]; decide
      rw [if_neg c2, if_neg c1, if_pos hw]
      have t8 : t < 8 := by omega
      have t31 : t < 2 ^ 31 := by omega
      have eC1 : C.1 (w + 2) t = B.1 (w + 2) t := by rw [hC.2 2 (by omega)]
      have href : ∀ R, AgR B R a n → fX12_refusesFind a (nI p) (nI t) R = if B.1 a t = 1 then some 0 else some (-2) := fun R hR => by
        unfold fX12_refusesFind
        rw [if_neg (m1 R hR), if_neg m2, hla, if_pos ha, if_pos (zinT (show t < 26 by omega) t31), nI_clamp t31, hR.2]
      have hcl : fX10_bringIn w (nI t) (nI p) C = if 0 ≤ B.1 (w + 2) t then (fX10_inside w (zSI (zSI (zSI C (w + 2) t (-1)) (w + 3) t 0) (w + 4) t (nI p))).bind (fun r3 => some (fJ6_bitCount_0f7a4 r3, zSI (zSI (zSI C (w + 2) t (-1)) (w + 3) t 0) (w + 4) t (nI p))) else some (-2, C) := by
        simp only [fX10_bringIn, hw, if_true, if_pos (zinT t8 t31), nI_clamp t31, zlet, eC1]
      rw [hcl]
      have hT := hW.at ht
      rcases hT with ⟨b1, b2, b3, b4, b5, b6⟩ | ⟨b1, ⟨q, hq, b2⟩, b3, b4, b5, b6⟩ | ⟨b1, b2, -, b3, b4, b5, b6⟩
      · refine Or.inl ⟨-2, Or.inr rfl, ?_, fun R hR => by rw [href R hR, b1, if_neg (by decide)]⟩
        rw [b4, if_neg (by decide)]; rfl
      · refine Or.inr ?_
        generalize hD : zSI (zSI (zSI C (w + 2) t (-1)) (w + 3) t 0) (w + 4) t (nI p) = D
        have hWD : ∀ R, AgR B R a n → RW (mix D (gsR R a t 2 (nI p))) n w a 0 := fun R hR => by
          have dC : ∀ c, c ≤ 4 → (mix D (gsR R a t 2 (nI p))).1 (w + c) = D.1 (w + c) := fun c _ => mixC _ _ (by omega)
          have dR : (mix D (gsR R a t 2 (nI p))).1 a = (gsR R a t 2 (nI p)).1 a := mixR _ _ (by omega)
          have d0 : (mix D (gsR R a t 2 (nI p))).1 w = D.1 w := mixC _ _ (by omega)
          have eD : ∀ c s, D.1 (w + c) s = if c = 4 ∧ s = t then nI p else if c = 3 ∧ s = t then 0 else if c = 2 ∧ s = t then -1 else C.1 (w + c) s := fun c s => by
            subst hD
            rw [gSI, gSI, gSI]
            simp
          have hw4 : D.1 w = C.1 w := by subst hD; rw [zSI_other _ _ _ (by omega), zSI_other _ _ _ (by omega), zSI_other _ _ _ (by omega)]
          have hcw : C.1 w = B.1 w := hC.2 0 (by omega)
          refine hW.put h8 ht (fun c c1 c4 s hs hst => ?_) (fun j hj hjt => ?_) ?_ ?_ ?_
          · rw [dC c c4, eD, if_neg (fun z => hst z.2), if_neg (fun z => hst z.2), if_neg (fun z => hst z.2), hC.2 c c4]
          · rw [dR, gsR_row, if_neg (by omega), if_neg (by omega), if_neg (by omega), hR.2]
          · rw [d0, dR, hw4, hcw, gsR_row, if_neg (by omega), if_neg (by omega), if_neg (by omega), hR.2]
            have := hW.2.2.1; rw [Nat.zero_add] at this; exact this
          · rw [d0, dR, hw4, hcw, gsR_row, if_neg (by omega), if_neg (by omega), if_neg (by omega), hR.2]
            have := hW.2.2.2; rw [Nat.zero_add] at this; exact this
          · rw [dC 1 (by omega), dC 2 (by omega), dC 3 (by omega), dC 4 (by omega), dR, eD, eD, eD, eD, gsR_row, gsR_row, gsR_row]
            refine Or.inr (Or.inr ⟨?_, ⟨p, hp, ?_⟩, ⟨0, by omega, ?_⟩, ?_, ?_, ?_, ?_⟩)
            · simp [show ¬ t = 16 + t by omega, show ¬ t = 8 + t by omega]
            · simp [show ¬ 8 + t = 16 + t by omega]
            · simp; rfl
            · simp [hC.2 1, b3]
            · simp
            · simp
            · simp [show ¬ 8 + t = 16 + t by omega]
        have hin : fX10_inside w D = some (bsA (fun s => !decide (D.1 (w + 3) s < 0)) 8) := pX10_inside hw
        refine ⟨t, fJ6_bitCount_0f7a4 (bsA (fun s => !decide (D.1 (w + 3) s < 0)) 8), D, ht, rfl, ?_, ?_, ?_, fun R hR => ⟨?_, hWD R hR, ?_⟩⟩
        rotate_left
        · rw [if_pos (by rw [b4, b2]; exact nI_pos' (by omega)), hin]
          rfl
        · subst hD; exact ((Wch.SI C _ _ (by omega) (by omega)).trans (Wch.SI _ _ _ (by omega) (by omega))).trans (Wch.SI _ _ _ (by omega) (by omega))
        · rw [href R hR, if_pos b1]
        · refine ⟨_, pX12_those (n := n) (by rw [gsR_other _ _ _ (by omega)]; exact hR.1) h8 ha, ?_⟩
          have := RW_in (hWD R hR) h8
          rw [mixC _ _ (by omega)] at this
          rw [this, mixR _ _ (by omega)]
          simp only [Nat.zero_add]
        · have := RW_in (hWD (zSI B 36 1 (nI n)) ⟨by rw [gSI, if_pos ⟨rfl, rfl⟩], by rw [zSI_other _ _ _ (by omega)]⟩) h8
          rw [mixC _ _ (by omega)] at this
          rw [this]
          exact bc_nneg h8
      · refine Or.inl ⟨-2, Or.inr rfl, ?_, fun R hR => by rw [href R hR, b1, if_neg (by decide)]⟩
        rw [b4, if_neg (by decide)]; rfl
theorem A_give (h8 : n ≤ 8) (hW : RW B n w 37 0) (hw : zSH w = .inl 10) (hw6 : 60 ≤ w) (hC : AgC B C w n) (x y : Int32) :
    (∃ r, (r = -1 ∨ r = -2) ∧ fX11_perform w 103 x y C = some (r, C) ∧ ∀ R, AgR B R 37 n → fX12_refusesGift x y R = some r) ∨
    (∃ t r D, t < n ∧ x = nI t ∧ ¬ r < 0 ∧ fX11_perform w 103 x y C = some (r, D) ∧ Wch w C D ∧ r = B.1 37 (8 + t) ∧ ∀ R, AgR B R 37 n → fX12_refusesGift x y R = some 0 ∧ RW (mix D (zSI R 37 (8 + t) y)) n w 37 0) := by
  rw [perf_g]
  rcases split_ix x (n := n) (by omega) with hx | ⟨t, ht, rfl⟩
  · refine Or.inl ⟨-1, Or.inl rfl, by rw [if_pos (isThingC0 hC.1 (by omega) hx)], fun R hR => ?_⟩
    unfold fX12_refusesGift
    rw [if_pos (isThingM0 hR.1 (by omega) hx)]
  · have c1 : ¬ fX11_isThing (nI t) C = 0 := by rw [isThingC1 hC.1 (by omega) ht]; decide
    have m1 : ∀ R, AgR B R 37 n → ¬ fX12_isThing (nI t) R = 0 := fun R hR => by rw [isThingM1 hR.1 (by omega) ht]; decide
    rcases split_ix y (n := 7) (by omega) with hy | ⟨p, hp, rfl⟩
    · refine Or.inl ⟨-1, Or.inl rfl, by rw [if_neg c1, if_pos (isSo0 hy)], fun R hR => ?_⟩
      unfold fX12_refusesGift
      rw [if_neg (m1 R hR), if_pos (show fX12_in y 0 6 = 0 from in0 (n := 7) (by omega) hy)]
    · have c2 : ¬ fX11_isSomebody (nI p) = 0 := by rw [isSo1 hp]; decide
      have m2 : ¬ fX12_in (nI p) 0 6 = 0 := by rw [show fX12_in (nI p) 0 6 = 1 from in1 (n := 7) (by omega) hp]; decide
      rw [if_neg c1, if_neg c2, if_pos hw]
      have t8 : t < 8 := by omega
      have t31 : t < 2 ^ 31 := by omega
      have eC1 : C.1 (w + 1) t = B.1 (w + 1) t := by rw [hC.2 1 (by omega)]
      have href : ∀ R, AgR B R 37 n → fX12_refusesGift (nI t) (nI p) R = if B.1 37 t = 0 then (if B.1 37 (8 + t) = nI p then some (-2) else some 0) else some (-2) := fun R hR => by
        unfold fX12_refusesGift
        rw [if_neg (m1 R hR), if_neg m2, if_pos (zinT (show t < 26 by omega) t31), nI_clamp t31, hR.2, show (8 : Int32) + nI t = nI (8 + t) from nI_add 8 t, if_pos (zinT (show 8 + t < 26 by omega) (by omega)), nI_clamp (show 8 + t < 2 ^ 31 by omega)]
      have hcl : fX10_hand w (nI t) (nI p) C = if B.1 (w + 1) t < 0 then some (-2, C) else if B.1 (w + 1) t = nI p then some (-2, C) else some (B.1 (w + 1) t, zSI C (w + 1) t (nI p)) := by
        simp only [fX10_hand, hw, if_true, if_pos (zinT t8 t31), nI_clamp t31, zlet, eC1]
      rw [hcl]
      have hT := hW.at ht
      rcases hT with ⟨b1, ⟨q, hq, b2⟩, b3, b4, b5, b6⟩ | ⟨b1, -, b3, b4, b5, b6⟩ | ⟨b1, b2, -, b3, b4, b5, b6⟩
      · by_cases hpq : B.1 37 (8 + t) = nI p
        · refine Or.inl ⟨-2, Or.inr rfl, ?_, fun R hR => by rw [href R hR, if_pos b1, if_pos hpq]⟩
          rw [b3, b2, if_neg (nI_nneg (by omega)), ← b2, if_pos hpq]; rfl
        · refine Or.inr ⟨t, B.1 (w + 1) t, zSI C (w + 1) t (nI p), ht, rfl, ?_, ?_, Wch.SI C _ _ (by omega) (by omega), b3, fun R hR => ⟨by rw [href R hR, if_pos b1, if_neg hpq], ?_⟩⟩
          · rw [b3, b2]; exact nI_nneg (by omega)
          · rw [b3, if_neg (by rw [b2]; exact nI_nneg (by omega)), if_neg hpq]; rfl
          · generalize hD : zSI C (w + 1) t (nI p) = D
            have dC : ∀ c, c ≤ 4 → (mix D (zSI R 37 (8 + t) (nI p))).1 (w + c) = D.1 (w + c) := fun c _ => mixC _ _ (by omega)
            have dR : ∀ j, (mix D (zSI R 37 (8 + t) (nI p))).1 37 j = if j = 8 + t then nI p else B.1 37 j := fun j => by
              rw [mixR _ _ (by omega), gSI, hR.2]; simp
            have d0 : (mix D (zSI R 37 (8 + t) (nI p))).1 w = D.1 w := mixC _ _ (by omega)
            have eD : ∀ c s, D.1 (w + c) s = if c = 1 ∧ s = t then nI p else C.1 (w + c) s := fun c s => by
              subst hD
              rw [gSI]
              simp
            have hw4 : D.1 w = C.1 w := by subst hD; rw [zSI_other _ _ _ (by omega)]
            have hcw : C.1 w = B.1 w := hC.2 0 (by omega)
            refine hW.put h8 ht (fun c c1 c4 s hs hst => ?_) (fun j hj hjt => ?_) ?_ ?_ ?_
            · rw [dC c c4, eD, if_neg (fun z => hst z.2), hC.2 c c4]
            · rw [dR, if_neg (by omega)]
            · rw [d0, dR, hw4, hcw, if_neg (by omega)]
              have := hW.2.2.1; rw [Nat.zero_add] at this; exact this
            · rw [d0, dR, hw4, hcw, if_neg (by omega)]
              have := hW.2.2.2; rw [Nat.zero_add] at this; exact this
            · rw [dC 1 (by omega), dC 2 (by omega), dC 3 (by omega), dC 4 (by omega), dR, dR, dR, eD, eD, eD, eD]
              refine Or.inl ⟨?_, ⟨p, by omega, ?_⟩, ?_, ?_, ?_, ?_⟩
              · rw [if_neg (by omega)]; exact b1
              · rw [if_pos rfl]
              · rw [if_pos rfl]; simp
              · simp [hC.2 2, b4]
              · simp [hC.2 3, b5]
              · simp [hC.2 4, b6]
      · refine Or.inl ⟨-2, Or.inr rfl, ?_, fun R hR => by rw [href R hR, b1, if_neg (by decide)]⟩
        rw [b3, if_pos (by decide)]; rfl
      · refine Or.inl ⟨-2, Or.inr rfl, ?_, fun R hR => by rw [href R hR, b1, if_neg (by decide)]⟩
        rw [b3, if_pos (by decide)]; rfl
end ACT2
/-! DAYS -/
section DAY
variable {C R : zM} {n w a : Nat}
def dayC (C : zM) (w : Nat) (τ : Int32) : zM := zSI (fun k j => wDay C w τ 8 k j, C.2) w 4 (C.1 w 4 + 1)
def dayR (R : zM) (a : Nat) (τ : Int32) (n : Nat) : zM := zSI (fun k j => mDay R a τ n k j, R.2) a 24 (R.1 a 24 + 1)
theorem dayC_ch (C : zM) (w : Nat) (τ : Int32) : Wch w C (dayC C w τ) := by
  refine ⟨rfl, fun k hk => ?_⟩
  unfold dayC
  rw [zSI_other _ _ _ (by omega)]
  funext j
  show wDay C w τ 8 k j = _
  unfold wDay
  rw [if_neg (show ¬ k = w + 1 by omega), if_neg (show ¬ k = w + 2 by omega), if_neg (show ¬ k = w + 3 by omega), if_neg (show ¬ k = w + 4 by omega)]
  split <;> rfl
theorem dayR_ch (R : zM) (a : Nat) (τ : Int32) (n : Nat) : (dayR R a τ n).2 = R.2 ∧ ∀ k, k ≠ a → (dayR R a τ n).1 k = R.1 k := by
  refine ⟨rfl, fun k hk => ?_⟩
  unfold dayR
  rw [zSI_other _ _ _ hk]
  funext j
  show mDay R a τ n k j = _
  unfold mDay
  rw [if_neg (fun z => hk z.1)]
theorem nd_eq {e : Nat} (he : e ≤ 99) : zmin 99 (nI e + 1) = nI (min 99 (e + 1)) := by
  rw [nI_1, show (99 : Int32) = nI 99 from rfl, zmin_nI (by omega) (by omega)]
theorem RW.day (h8 : n ≤ 8) (hW : RW (mix C R) n w a 0) (hw6 : 60 ≤ w) (ha3 : 36 < a ∧ a < 59) (τ : Int32) : bsA (wDue C w τ) 8 = bsA (mDue R a τ) n ∧ RW (mix (dayC C w τ) (dayR R a τ n)) n w a 0 := by
  have rC : ∀ c, c ≤ 4 → (mix C R).1 (w + c) = C.1 (w + c) := fun c _ => mixC _ _ (by omega)
  have rR : (mix C R).1 a = R.1 a := mixR _ _ (by omega)
  have r0 : (mix C R).1 w = C.1 w := mixC _ _ (by omega)
  have sC : ∀ c, c ≤ 4 → (mix (dayC C w τ) (dayR R a τ n)).1 (w + c) = (dayC C w τ).1 (w + c) := fun c _ => mixC _ _ (by omega)
  have sR : (mix (dayC C w τ) (dayR R a τ n)).1 a = (dayR R a τ n).1 a := mixR _ _ (by omega)
  have s0 : (mix (dayC C w τ) (dayR R a τ n)).1 w = (dayC C w τ).1 w := mixC _ _ (by omega)
  have dC : ∀ c, 1 ≤ c → ∀ j, (dayC C w τ).1 (w + c) j = wDay C w τ 8 (w + c) j := fun c hc j => by
    unfold dayC
    rw [gSI, if_neg (by omega)]
  have dR : ∀ j, j ≠ 24 → (dayR R a τ n).1 a j = mDay R a τ n a j := fun j hj => by
    unfold dayR
    rw [gSI, if_neg (by omega)]
  have hT : ∀ t, t < n → RWt (C.1 (w + 1) t) (C.1 (w + 2) t) (C.1 (w + 3) t) (C.1 (w + 4) t) (R.1 a t) (R.1 a (8 + t)) (R.1 a (16 + t)) := fun t ht => by
    have := hW.at ht
    rw [rC 1 (by omega), rC 2 (by omega), rC 3 (by omega), rC 4 (by omega), rR] at this
    exact this
  have hO : ∀ t, n ≤ t → t < 8 → C.1 (w + 1) t = -1 ∧ C.1 (w + 2) t = -1 ∧ C.1 (w + 3) t = -1 ∧ C.1 (w + 4) t = -1 := fun t t1 t2 => by
    have := hW.2.1 t t1 t2
    rw [rC 1 (by omega), rC 2 (by omega), rC 3 (by omega), rC 4 (by omega)] at this
    exact this
  have hdue : ∀ t, t < n → wDue C w τ t = mDue R a τ t := fun t ht => by
    rcases hT t ht with ⟨b1, -, -, -, b5, -⟩ | ⟨b1, -, -, -, b5, -⟩ | ⟨b1, -, ⟨e, he, b2⟩, -, -, b5, -⟩
    · simp [wDue, mDue, b1, b5]
    · simp [wDue, mDue, b1, b5]
    · have : ¬ nI e < 0 := nI_nneg (by omega)
      simp only [wDue, mDue, wNd, mNd, b1, b5, b2, this, decide_true, decide_false, Bool.not_false, Bool.true_and]
      by_cases q : zmin 99 (nI e + 1) < τ
      · simp [q, (ile_nlt τ _).mpr q]
      · simp [q, (ilt_nle _ τ).mp q]
  have hdue2 : ∀ t, n ≤ t → t < 8 → wDue C w τ t = false := fun t t1 t2 => by
    simp [wDue, (hO t t1 t2).2.2.1]
  refine ⟨?_, fun t ht => ?_, fun t t1 t2 => ?_, ?_, ?_⟩
  · have e8 := bsA_more (p := wDue C w τ) (n := n) (k := 8 - n) (fun t t1 t2 => hdue2 t t1 (by omega))
    rw [show n + (8 - n) = 8 by omega] at e8
    rw [e8]
    exact bsA_congr hdue
  · simp only [Nat.zero_add]
    rw [sC 1 (by omega), sC 2 (by omega), sC 3 (by omega), sC 4 (by omega), sR, dC 1 (by omega), dC 2 (by omega), dC 3 (by omega), dC 4 (by omega), dR _ (by omega), dR _ (by omega), dR _ (by omega)]
    have m0 : mDay R a τ n a t = if mDue R a τ t = true then 0 else R.1 a t := by
      unfold mDay; rw [if_pos ⟨rfl, by omega, by omega⟩, if_pos (by omega)]
    have m8 : mDay R a τ n a (8 + t) = R.1 a (8 + t) := by
      unfold mDay; rw [if_pos ⟨rfl, by omega, by omega⟩, if_neg (by omega), if_pos (by omega)]
    have m16 : mDay R a τ n a (16 + t) = if mDue R a τ t = true then 0 else if R.1 a t = 2 then mNd R a t else R.1 a (16 + t) := by
      unfold mDay; rw [if_pos ⟨rfl, by omega, by omega⟩, if_neg (by omega), if_neg (by omega), show 16 + t - 16 = t by omega]
    have w1 : wDay C w τ 8 (w + 1) t = if wDue C w τ t = true then C.1 (w + 4) t else C.1 (w + 1) t := by
      unfold wDay; rw [if_pos (by omega), if_pos rfl]
    have w2 : wDay C w τ 8 (w + 2) t = if wDue C w τ t = true then -1 else C.1 (w + 2) t := by
      unfold wDay; rw [if_pos (by omega), if_neg (by omega), if_pos rfl]
    have w3 : wDay C w τ 8 (w + 3) t = if wDue C w τ t = true then -1 else if C.1 (w + 3) t < 0 then C.1 (w + 3) t else wNd C w t := by
      unfold wDay; rw [if_pos (by omega), if_neg (by omega), if_neg (by omega), if_pos rfl]
    have w4 : wDay C w τ 8 (w + 4) t = if wDue C w τ t = true then -1 else C.1 (w + 4) t := by
      unfold wDay; rw [if_pos (by omega), if_neg (by omega), if_neg (by omega), if_neg (by omega), if_pos rfl]
    rw [m0, m8, m16, w1, w2, w3, w4, hdue t ht]
    rcases hT t ht with ⟨b1, b2, b3, b4, b5, b6⟩ | ⟨b1, b2, b3, b4, b5, b6⟩ | ⟨b1, ⟨q, hq, b2⟩, ⟨e, he, b7⟩, b3, b4, b5, b6⟩
    · have d0 : mDue R a τ t = false := by simp [mDue, b1]
      simp only [d0, Bool.false_eq_true, if_false]
      refine Or.inl ⟨b1, b2, b3, b4, ?_, b6⟩
      rw [b5, if_pos (by decide)]
    · have d0 : mDue R a τ t = false := by simp [mDue, b1]
      simp only [d0, Bool.false_eq_true, if_false]
      refine Or.inr (Or.inl ⟨b1, b2, b3, b4, ?_, b6⟩)
      rw [b5, if_pos (by decide)]
    · by_cases d : mDue R a τ t = true
      · simp only [d, if_true]
        exact Or.inl ⟨rfl, ⟨q, by omega, b2⟩, b6, rfl, rfl, rfl⟩
      · simp only [d, if_false]
        have en : ¬ C.1 (w + 3) t < 0 := by rw [b5, b7]; exact nI_nneg (by omega)
        rw [if_neg en, if_pos b1]
        have e1 : mNd R a t = nI (min 99 (e + 1)) := by unfold mNd; rw [b7]; exact nd_eq he
        have e2 : wNd C w t = nI (min 99 (e + 1)) := by unfold wNd; rw [b5, b7]; exact nd_eq he
        rw [e1, e2]
        exact Or.inr (Or.inr ⟨b1, ⟨q, hq, b2⟩, ⟨_, by omega, rfl⟩, b3, b4, rfl, b6⟩)
  · rw [sC 1 (by omega), sC 2 (by omega), sC 3 (by omega), sC 4 (by omega), dC 1 (by omega), dC 2 (by omega), dC 3 (by omega), dC 4 (by omega)]
    obtain ⟨o1, o2, o3, o4⟩ := hO t t1 t2
    have hd := hdue2 t t1 t2
    unfold wDay
    simp only [hd, Bool.false_eq_true, if_false]
    refine ⟨?_, ?_, ?_, ?_⟩
    · rw [if_pos (by omega), if_pos trivial]; exact o1
    · rw [if_pos (by omega), if_neg (by omega), if_pos trivial]; exact o2
    · rw [if_pos (by omega), if_neg (by omega), if_neg (by omega), if_pos trivial, o3, if_pos (by decide)]
    · rw [if_pos (by omega), if_neg (by omega), if_neg (by omega), if_neg (by omega), if_pos trivial]; exact o4
  · rw [s0, sR, Nat.zero_add]
    unfold dayC dayR
    rw [gSI, if_pos ⟨rfl, rfl⟩, gSI, if_pos ⟨rfl, rfl⟩]
    have := hW.2.2.1
    rw [r0, rR, Nat.zero_add] at this
    rw [this]
  · rw [s0, sR, Nat.zero_add]
    unfold dayC dayR
    rw [gSI, if_neg (by omega), gSI, if_neg (by omega)]
    show wDay C w τ 8 w 5 = mDay R a τ n a 25
    have k1 : wDay C w τ 8 w 5 = C.1 w 5 := by simp [wDay]
    have k2 : mDay R a τ n a 25 = R.1 a 25 := by unfold mDay; rw [if_neg (by omega)]
    have := hW.2.2.2
    rw [r0, rR, Nat.zero_add] at this
    rw [k1, k2, this]
/-- many days, on both sides -/
theorem A_daysL (h8 : n ≤ 8) (hw : zSH w = .inl 10) (hw6 : 60 ≤ w) (ha : zSH a = .inr (0, 26)) (ha3 : 36 < a ∧ a < 59) (τ : Int32) {many : Nat} (hm : many < 1000) : ∀ k i m m' b (C R : zM), i + k = many → k < m → k < m' → RW (mix C R) n w a 0 → R.1 36 1 = nI n → R.1 36 3 = τ → (∃ v, v < 2 ^ n ∧ b = nI v) → ∃ v D S, v < 2 ^ n ∧ fX10_passDays_L5 w (nI many) τ m b (nI i) C = some (nI v, D) ∧ fX12_goDays_L5 a (nI many) m' b (nI i) R = some (nI v, S) ∧ RW (mix D S) n w a 0 ∧ Wch w C D ∧ (S.2 = R.2 ∧ ∀ k, k ≠ a → S.1 k = R.1 k) := by
  intro k
  induction k with
  | zero =>
    intro i m m' b C R hi hm1 hm2 hW e1 e3 hb
    obtain ⟨m, rfl⟩ : ∃ q, m = q + 1 := ⟨m - 1, by omega⟩
    obtain ⟨m', rfl⟩ : ∃ q, m' = q + 1 := ⟨m' - 1, by omega⟩
    obtain ⟨v, hv, rfl⟩ := hb
    have : i = many := by omega
    subst this
    refine ⟨v, C, R, hv, ?_, ?_, hW, Wch.refl w C, rfl, fun _ _ => rfl⟩
    · simp only [fX10_passDays_L5, if_pos (leT (Nat.le_refl i) (by omega))]
    · simp only [fX12_goDays_L5, if_pos (leT (Nat.le_refl i) (by omega))]
  | succ k ih =>
    intro i m m' b C R hi hm1 hm2 hW e1 e3 hb
    obtain ⟨m, rfl⟩ : ∃ q, m = q + 1 := ⟨m - 1, by omega⟩
    obtain ⟨m', rfl⟩ : ∃ q, m' = q + 1 := ⟨m' - 1, by omega⟩
    obtain ⟨d1, d2⟩ := RW.day h8 hW hw6 ha3 τ
    obtain ⟨q1, q2⟩ := dayR_ch R a τ n
    have ep := pX10_passDay (w := w) (term := τ) (M := C) hw
    have eg := pX12_goDay (a := a) (n := n) (M := R) ha (by omega) e1 h8
    rw [e3] at eg
    obtain ⟨v2, hv2, ev2⟩ := bsN (p := mDue R a τ) (n := n) (by omega)
    rw [d1, ev2] at ep
    rw [ev2] at eg
    have ep' : fX10_passDay w τ C = some (nI v2, dayC C w τ) := ep
    have eg' : fX12_goDay a R = some (nI v2, dayR R a τ n) := eg
    obtain ⟨v, hv, rfl⟩ := hb
    obtain ⟨u, D, S, g0, g1, g2, g3, g4, g5, g6⟩ := ih (i + 1) m m' (nI (v ||| v2)) (dayC C w τ) (dayR R a τ n) (by omega) (by omega) (by omega) d2 (by rw [q2 36 (by omega)]; exact e1) (by rw [q2 36 (by omega)]; exact e3) ⟨v ||| v2, Nat.or_lt_two_pow hv hv2, rfl⟩
    refine ⟨u, D, S, g0, ?_, ?_, g3, (dayC_ch C w τ).trans g4, g5.trans q1, fun k hk => (g6 k hk).trans (q2 k hk)⟩
    · simp only [fX10_passDays_L5, if_neg (leF (show i < many by omega) (by omega)), hw, if_true, ep', Option.bind_some, zp, zlet, nI_or, nI_1]
      exact g1
    · simp only [fX12_goDays_L5, if_neg (leF (show i < many by omega) (by omega)), eg', Option.bind_some, zp, zlet, nI_or, nI_1]
      exact g2
theorem A_days (h8 : n ≤ 8) (hW : RW (mix C R) n w a 0) (hw : zSH w = .inl 10) (hw6 : 60 ≤ w) (ha : zSH a = .inr (0, 26)) (ha3 : 36 < a ∧ a < 59) {many : Nat} (hm : many < 1000) (e1 : R.1 36 1 = nI n) : ∃ v D S, v < 2 ^ n ∧ fX10_passDays w (nI many) (R.1 36 3) C = some (nI v, D) ∧ fX12_goDays a (nI many) R = some (nI v, S) ∧ RW (mix D S) n w a 0 ∧ Wch w C D ∧ (S.2 = R.2 ∧ ∀ k, k ≠ a → S.1 k = R.1 k) := by
  obtain ⟨v, D, S, g0, g1, g2, g3⟩ := A_daysL h8 hw hw6 ha ha3 (R.1 36 3) hm many 0 4000 4000 0 C R (by omega) (by omega) (by omega) hW e1 rfl ⟨0, Nat.two_pow_pos n, rfl⟩
  refine ⟨v, D, S, g0, ?_, ?_, g3⟩
  · unfold fX10_passDays
    rw [show fX10_passDays_L5 w (nI many) (R.1 36 3) 4000 0 0 C = some (nI v, D) from g1]; rfl
  · unfold fX12_goDays
    rw [show fX12_goDays_L5 a (nI many) 4000 0 0 R = some (nI v, S) from g2]; rfl
end DAY
