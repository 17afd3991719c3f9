/-! claim -/
def RY (a : Nat) (R T : zM) : Prop := T.2.1 = R.2.1 ∧ (∀ j, j ≠ 13 → T.2.2 j = R.2.2 j) ∧ (∀ k, k ≠ 36 → k ≠ a → k ≠ 46 → T.1 k = R.1 k) ∧ ∀ j, j ∉ [12, 13, 14, 15, 16, 17, 22] → T.1 36 j = R.1 36 j
section CLM
variable {B C : zM} {n nd w a p S : Nat} {l : List Int32} {v : (Nat → Int32) → Int32}
theorem A_claim (hS : RS B n nd) (hW : RW B n w a 0) (hw : zSH w = .inl 10) (hw6 : 60 ≤ w) (ha : zSH a = .inr (0, 26)) (ha3 : 36 < a ∧ a < 59) (ha46 : a ≠ 46 ∧ a ≠ 39) (hR : RV B l v S) (h19 : B.2.2 19 = some 44) (hq : B.1 0 18 = B.1 36 4) (hC : CE B C w) (hC2 : ∀ c, c ≤ 4 → C.1 (w + c) = B.1 (w + c)) (hp : p < 7) (told : Int32) :
    (gO B n a v told = none ∧ (∃ D, fX11_handOut w (nI p) told C = some (-2, D) ∧ CN C D) ∧ ∀ R, ME B R a 44 → ∃ T, fX12_goClaim a (nI p) told R = some (-2, T) ∧ FrQ R T) ∨
    (∃ t D, gO B n a v told = some t ∧ t < n ∧ fX11_handOut w (nI p) told C = some (nI t, D) ∧ CY w C D ∧ ∀ R, ME B R a 44 → ∃ T, fX12_goClaim a (nI p) told R = some (nI t, T) ∧ RY a R T ∧ RW (mix D T) n w a 0) := by
  have h8 := hS.1.1
  have hla : zLen a = 26 := zLen_of ha
  obtain ⟨⟨r1, C1⟩, e1, h1, f1⟩ := c_best (N := C) (told := told) hS hW hw hw6 hR hq hC
  have hA : AR B 44 S v := ⟨h19, Or.inl rfl, hR.2.2.1, hR.2.2.2⟩
  have mG : ∀ R, ME B R a 44 → _ := fun R e => m_got (N := R) (told := told) hS ha (by omega) hA e
  have hP := gO_P (B := B) (n := n) (a := a) (v := v) (told := told)
  dsimp only at h1 f1
  generalize gO B n a v told = O at h1 mG hP
  cases O with
  | none =>
    refine Or.inl ⟨rfl, ⟨C1, ?_, f1.2, fun k k1 k2 => f1.1 k k1 k2⟩, fun R e => ?_⟩
    · unfold fX11_handOut
      rw [e1, h1]; rfl
    · obtain ⟨⟨r2, R1⟩, e2, h2, f2⟩ := mG R e
      dsimp only at h2 f2
      refine ⟨R1, ?_, f2⟩
      unfold fX12_goClaim
      rw [e2, h2]; rfl
  | some t =>
    obtain ⟨ht, ht2⟩ := hP t rfl
    have t8 : t < 8 := by omega
    have t31 : t < 2 ^ 31 := by omega
    have h1' : r1 = nI t := h1
    subst h1'
    generalize hD0 : zSI (zSI (zSI (zSI C1 (w + 1) t (nI p)) (w + 2) t (-1)) (w + 3) t (-1)) (w + 4) t (-1) = D0
    have ep : fX10_putWith w (nI t) (nI p) C1 = some D0 := by rw [pX10_putWith hw t8, hD0]
    have d0k : ∀ k, (k < w ∨ w + 4 < k ∨ k = w) → D0.1 k = C1.1 k := fun k hk => by
      subst hD0
      rw [zSI_other _ _ _ (by omega), zSI_other _ _ _ (by omega), zSI_other _ _ _ (by omega), zSI_other _ _ _ (by omega)]
    have d0c : ∀ c s, 1 ≤ c → D0.1 (w + c) s = if c = 4 ∧ s = t then -1 else if c = 3 ∧ s = t then -1 else if c = 2 ∧ s = t then -1 else if c = 1 ∧ s = t then nI p else C1.1 (w + c) s := fun c s hc => by
      subst hD0
      rw [gSI, gSI, gSI, gSI]
      simp
    have c1k : ∀ k, k ≠ 15 → k ≠ 16 → C1.1 k = C.1 k := fun k a b => f1.1 k a b
    have pw : D0.1 w 5 = B.1 w 5 := by rw [d0k w (by omega), c1k w (by omega) (by omega), hC.2.2.2.2.2.1]
    have p7 : D0.1 7 t = B.1 39 t := by rw [d0k 7 (by omega), c1k 7 (by omega) (by omega), hC.2.2.1]; exact (hS.2.2.2.1 t ht).1
    refine Or.inr ⟨t, zSI D0 w 5 (zmin 9999 (B.1 w 5 + B.1 39 t)), rfl, ht, ?_, ⟨?_, fun k k1 k2 k3 => ?_⟩, fun R e => ?_⟩
    · unfold fX11_handOut
      rw [e1]
      simp only [Option.bind_some, zp, if_pos (nI_pos' t31), hw, if_true, ep, if_pos (zinT t8 t31), nI_clamp t31, zlet, pw, p7]
    · show D0.2 = _
      subst hD0
      exact f1.2
    · rw [zSI_other _ _ _ (by omega), d0k k (by omega), c1k k k2 k3]
    · obtain ⟨⟨r2, R1⟩, e2, h2, f2⟩ := mG R e
      dsimp only at h2 f2
      have h2' : r2 = nI t := h2
      subst h2'
      have ra : R1.1 a = B.1 a := by rw [f2.1 a (by omega) (by omega)]; exact e.2.2.2.1
      have r39 : R1.1 39 = B.1 39 := by rw [f2.1 39 (by omega) (by omega)]; exact e.2.2.1
      have g25 : (gsR R1 a t 0 (nI p)).1 a 25 = B.1 a 25 := by rw [gsR_row, if_neg (by omega), if_neg (by omega), if_neg (by omega), ra]
      have g39 : (gsR R1 a t 0 (nI p)).1 39 t = B.1 39 t := by rw [gsR_other _ _ _ (by omega), r39]
      refine ⟨zSI (gsR R1 a t 0 (nI p)) a 25 (zmin 9999 (B.1 a 25 + B.1 39 t)), ?_, ⟨?_, fun j hj => ?_, fun k k1 k2 k3 => ?_, fun j hj => ?_⟩, ?_⟩
      · unfold fX12_goClaim
        rw [e2]
        simp only [Option.bind_some, zp, if_pos (nI_pos' t31), pX12_goes ha t8]
        rw [show zSI (zSI (zSI R1 a t 0) a (8 + t) (nI p)) a (16 + t) 0 = gsR R1 a t 0 (nI p) from rfl, hla, if_pos ha, if_pos (show zin 25 26 by decide), if_pos (zinT t8 t31), nI_clamp t31, g25, g39]
        rfl
      · exact f2.2.2.1
      · exact f2.2.2.2 j hj
      · rw [zSI_other _ _ _ k2, gsR_other _ _ _ k2, f2.1 k k1 k3]
      · simp at hj
        rw [zSI_other _ _ _ (by omega), gsR_other _ _ _ (by omega), f2.2.1 j (by omega) (by omega)]
      · generalize hD : zSI D0 w 5 (zmin 9999 (B.1 w 5 + B.1 39 t)) = D
        generalize hT : zSI (gsR R1 a t 0 (nI p)) a 25 (zmin 9999 (B.1 a 25 + B.1 39 t)) = T
        have sC : ∀ c, c ≤ 4 → (mix D T).1 (w + c) = D.1 (w + c) := fun c _ => mixC _ _ (by omega)
        have s0 : (mix D T).1 w = D.1 w := mixC _ _ (by omega)
        have sR : (mix D T).1 a = T.1 a := mixR _ _ (by omega)
        have dD : ∀ c s, 1 ≤ c → D.1 (w + c) s = D0.1 (w + c) s := fun c s hc => by subst hD; rw [zSI_other _ _ _ (by omega)]
        have tT : ∀ j, j ≠ 25 → T.1 a j = (gsR R1 a t 0 (nI p)).1 a j := fun j hj => by subst hT; rw [gSI, if_neg (by omega)]
        have cB : ∀ c, 1 ≤ c → c ≤ 4 → C1.1 (w + c) = B.1 (w + c) := fun c _ h4 => by rw [c1k _ (by omega) (by omega), hC2 c h4]
        refine hW.put h8 ht (fun c c1 c4 s hs hst => ?_) (fun j hj hjt => ?_) ?_ ?_ ?_
        · rw [sC c c4, dD c s c1, d0c c s c1, if_neg (fun z => hst z.2), if_neg (fun z => hst z.2), if_neg (fun z => hst z.2), if_neg (fun z => hst z.2), cB c c1 c4]
        · rw [sR, tT j (by omega), gsR_row, if_neg (by omega), if_neg (by omega), if_neg (by omega), ra]
        · rw [s0, sR, tT 24 (by omega), gsR_row, if_neg (by omega), if_neg (by omega), if_neg (by omega), ra]
          subst hD
          rw [gSI, if_neg (by omega), d0k w (by omega), c1k w (by omega) (by omega), hC.2.2.2.2.2.1]
          have := hW.2.2.1; rw [Nat.zero_add] at this; exact this
        · rw [s0, sR]
          subst hD hT
          rw [gSI, if_pos ⟨rfl, rfl⟩, gSI, if_pos ⟨rfl, rfl⟩]
          have := hW.2.2.2; rw [Nat.zero_add] at this; rw [this]
        · rw [sC 1 (by omega), sC 2 (by omega), sC 3 (by omega), sC 4 (by omega), sR, dD 1 t (by omega), dD 2 t (by omega), dD 3 t (by omega), dD 4 t (by omega), d0c 1 t (by omega), d0c 2 t (by omega), d0c 3 t (by omega), d0c 4 t (by omega), tT t (by omega), tT _ (by omega), tT _ (by omega), gsR_row, gsR_row, gsR_row]
          refine Or.inl ⟨?_, ⟨p, by omega, ?_⟩, ?_, ?_, ?_, ?_⟩
          · simp [show ¬ t = 16 + t by omega, show ¬ t = 8 + t by omega]
          · simp [show ¬ 8 + t = 16 + t by omega]
          · simp [show ¬ 8 + t = 16 + t by omega]
          · simp
          · simp
          · simp
end CLM
theorem op_claim {M : zM} {N : Nat} (h : RAll M N) (y z : Int32) : OpS (fX11_claim y z) (fX12_claim y z) M N := by
  obtain ⟨n, nd, hS, hW, hX, hO, hP, hK, hC, hH, hU⟩ := h
  obtain ⟨u, x, hP⟩ := hP.x
  have hx : x < 13 := hP.1.2.1
  have h8 := hS.1.1
  obtain ⟨Na, en, hb⟩ := p_note hP.1.2.2.1 hx
  have ef : ∀ r D, fX11_perform 60 99 y z Na = some (r, D) → fX11_claim y z M = some (r, if r < 0 then D else fX2_keepNoted D) := fun r D e => by
    unfold fX11_claim
    rw [fX11_act_eq en e]; rfl
  have no : fX11_perform 60 99 y z Na = some (-1, Na) → fX12_claim y z Na = some (-1, zSI Na 36 12 0) → OpS (fX11_claim y z) (fX12_claim y z) M N := fun e1 e2 => ⟨-1, Na, zSI Na 36 12 0, by rw [ef _ Na e1, if_pos (by decide)], e2, opActNo hS hW hX hO hK hC hH hU hP hb (CN.refl Na) (RN.thrown Na)⟩
  rcases split_ix y (n := 7) (by omega) with hy | ⟨p, hp, rfl⟩
  · refine no ?_ ?_
    · rw [perf_c, if_pos (isSo0 hy)]
    · simp only [fX12_claim, zlet]
      rw [if_pos (show fX12_in y 0 6 = 0 from in0 (n := 7) (by omega) hy)]
  · have c1 : ¬ fX11_isSomebody (nI p) = 0 := by rw [isSo1 hp]; decide
    have m1 : ¬ fX12_in (nI p) 0 6 = 0 := by rw [show fX12_in (nI p) 0 6 = 1 from in1 (n := 7) (by omega) hp]; decide
    rcases split_ix z (n := 256) (by omega) with hz | ⟨m, hm, rfl⟩
    · refine no ?_ ?_
      · rw [perf_c, if_neg c1, if_pos (isDe0 hz).1]
      · simp only [fX12_claim, zlet]
        rw [if_neg m1, if_pos (isDe0 hz).2]
    · have c2 : ¬ fX11_isDescription (nI m) = 0 := by rw [(isDe1 hm).1]; decide
      have m2 : ¬ fX12_areMarks (nI m) = 0 := by rw [(isDe1 hm).2]; decide
      obtain ⟨l, v, S, hR⟩ := hU
      have hU : RU M := ⟨l, v, S, hR⟩
      have hR : RV M l v S := hR
      have k : ∀ k, k < 80 → Na.1 k = M.1 k := fun k hk => hb.2.1 k (by omega)
      have hCE : CE M Na 60 := ⟨k 5 (by omega), k 6 (by omega), k 7 (by omega), k 13 (by omega), k 14 (by omega), k 60 (by omega), k 63 (by omega), by rw [k 0 (by omega)]⟩
      have hA : AR M 44 S v := ⟨hC.2.2.2.2.1, Or.inl rfl, hR.2.2.1, hR.2.2.2⟩
      have mG : ∀ R, ME M R 37 44 → _ := fun R e => m_got (a := 37) (N := R) (told := nI m) hS rfl (by omega) hA e
      rcases A_claim (a := 37) (p := p) hS hW rfl (by omega) rfl (by omega) (by decide) hR hC.2.2.2.2.1 hC.2.2.1 hCE (fun c hc => k _ (by omega)) hp (nI m) with ⟨o1, ⟨D, e1, hc⟩, e2⟩ | ⟨t, D, o1, ht, e1, hc, e2⟩
      · have ep : fX11_perform 60 99 (nI p) (nI m) Na = some (-2, D) := by
          rw [perf_c, if_neg c1, if_neg c2, e1]; rfl
        have kD : ∀ k, 36 ≤ k → k < 60 → D.1 k = M.1 k := fun q q1 q2 => by rw [hc.2 q (by omega) (by omega), k q (by omega)]
        have hME : ME M (zSI D 36 12 0) 37 44 := ⟨by rw [gSI, if_neg (by omega), kD 36 (by omega) (by omega)], by rw [zSI_other _ _ _ (by decide), kD _ (by omega) (by omega)], by rw [zSI_other _ _ _ (by decide), kD _ (by omega) (by omega)], by rw [zSI_other _ _ _ (by decide), kD _ (by omega) (by omega)], by rw [zSI_other _ _ _ (by decide), kD _ (by omega) (by omega)], by rw [gSI, if_neg (by omega), kD 36 (by omega) (by omega)], by rw [gSI, if_neg (by omega), kD 36 (by omega) (by omega)], by show D.2.2 19 = _; rw [hc.1, hb.1]⟩
        obtain ⟨⟨r2, R1⟩, g1, g2, g3⟩ := mG _ hME
        dsimp only at g2 g3
        rw [o1] at g2
        refine ⟨-2, D, R1, by rw [ef _ D ep, if_pos (by decide)], ?_, opActNo hS hW hX hO hK hC hH hU hP hb hc ((RN.thrown D).trans (RN.ofQ g3))⟩
        simp only [fX12_claim, zlet, if_neg m1, if_neg m2, g1, Option.bind_some, zp, g2]
        rw [if_neg (by decide)]
      · have ep : fX11_perform 60 99 (nI p) (nI m) Na = some (nI t, D) := by
          rw [perf_c, if_neg c1, if_neg c2, e1]; rfl
        have kr := keepN_rows D
        generalize hM1 : fX2_keepNoted D = M1 at kr
        have kD : ∀ k, 36 ≤ k → k < 60 → M1.1 k = M.1 k := fun q q1 q2 => by rw [kr.2 q (by omega), hc.2 q (by omega) (by omega) (by omega), k q (by omega)]
        have hME : ∀ R, RN M1 R → ME M R 37 44 := fun R hR => ⟨by rw [hR.2.2.2 1 (by simp), kD 36 (by omega) (by omega)], by rw [hR.2.2.1 _ (by decide) (by decide), kD _ (by omega) (by omega)], by rw [hR.2.2.1 _ (by decide) (by decide), kD _ (by omega) (by omega)], by rw [hR.2.2.1 _ (by decide) (by decide), kD _ (by omega) (by omega)], by rw [hR.2.2.1 _ (by decide) (by decide), kD _ (by omega) (by omega)], by rw [hR.2.2.2 21 (by simp), kD 36 (by omega) (by omega)], by rw [hR.2.2.2 4 (by simp), kD 36 (by omega) (by omega)], by rw [hR.2.1 19 (by omega), kr.1, hc.1, hb.1]⟩
        obtain ⟨⟨r2, R0⟩, g1, g2, g3⟩ := mG _ (hME _ (RN.thrown M1))
        dsimp only at g2 g3
        rw [o1] at g2
        have g2' : r2 = nI t := g2
        subst g2'
        have hR0 : RN M1 R0 := (RN.thrown M1).trans (RN.ofQ g3)
        have r25 : R0.1 36 25 = nI u := by rw [hR0.2.2.2 25 (by simp), kD 36 (by omega) (by omega)]; exact hP.1.2.2.2.2
        obtain ⟨R1, em, hm⟩ := p_rem (x1 := 37) (M := R0) rfl (by decide) r25 hP.1.1
        have hE0 := hME R0 hR0
        have hE1 : ME M R1 37 44 := ⟨by rw [hm.2.2.1 1 (by omega)]; exact hE0.1, by rw [hm.2.1 _ (by omega) (by omega)]; exact hE0.2.1, by rw [hm.2.1 _ (by omega) (by omega)]; exact hE0.2.2.1, by rw [hm.2.1 _ (by omega) (by omega)]; exact hE0.2.2.2.1, by rw [hm.2.1 _ (by omega) (by omega)]; exact hE0.2.2.2.2.1, by rw [hm.2.2.1 21 (by omega)]; exact hE0.2.2.2.2.2.1, by rw [hm.2.2.1 4 (by omega)]; exact hE0.2.2.2.2.2.2.1, by rw [hm.1]; exact hE0.2.2.2.2.2.2.2⟩
        obtain ⟨T, eT, hT, w1⟩ := e2 R1 hE1
        have t31 : t < 2 ^ 31 := by omega
        refine ⟨nI t, M1, T, by rw [ef _ D ep, if_neg (nI_nneg t31), hM1], ?_, opActYes hS hW hX hO hK hC hH hU hP hb hc (by rw [hM1]; exact RYes.of hR0 hm hT) ?_⟩
        · simp only [fX12_claim, zlet, if_neg m1, if_neg m2, g1, Option.bind_some, zp, if_pos (nI_pos' t31), em, eT]
        · have rr : ∀ k, 60 ≤ k → T.1 k = (mix D T).1 k := fun k hk => by
            rw [mixC _ _ (by omega), hT.2.2.1 k (by omega) (by omega) (by omega), hm.2.1 k (by omega) (by omega), hR0.2.2.1 k (by omega) (by omega), kr.2 k (by omega)]
          exact w1.fr (rr _ (by omega)) (rr _ (by omega)) (rr _ (by omega)) (rr _ (by omega)) (rr _ (by omega)) (mixR _ _ (by omega)).symm
