/-! acts as calls -/
def SmX (l J : List Nat) (x : Nat) (M N : zM) : Prop := (∀ k, k ≠ 36 → k ∉ l → (k < 80 + 5 * x ∨ 80 + 5 * x + 4 < k) → N.1 k = M.1 k) ∧ (∀ j, j ∉ J → N.1 36 j = M.1 36 j) ∧ N.2.2 19 = M.2.2 19 ∧ N.2.2 20 = M.2.2 20
theorem SmX.toSm {l J : List Nat} {x : Nat} {M N : zM} (hx : x < 13) (s : SmX l J x M N) : Sm (l ++ slotsL) J M N := ⟨fun k k1 k2 => s.1 k k1 (fun z => k2 (List.mem_append_left _ z)) (by
  have : ¬ (80 ≤ k ∧ k ≤ 144) := fun z => k2 (List.mem_append_right _ (mem_slots z.1 z.2))
  omega), s.2⟩
/-- the ring, its words apart -/
def RPx (M : zM) (n u x : Nat) : Prop := (u ≤ 12 ∧ x < 13 ∧ M.1 9 1 = nI x ∧ M.1 9 2 = nI u ∧ M.1 36 25 = nI u) ∧ ∀ i, i < u → RW M n (80 + 5 * ((x + 13 - u + i) % 13)) 47 (26 * i)
theorem RP.x {M : zM} {n : Nat} (h : RP M n) : ∃ u x, RPx M n u x := by
  obtain ⟨u, x, h1, h2, h3, h4, h5, h6⟩ := h
  exact ⟨u, x, ⟨h1, h2, h3, h4, h5⟩, h6⟩
section AOP
variable {B Z : zM} {n nd N u x : Nat}
theorem actNo (hS : RS B n nd) (hW : RW B n 60 37 0) (hX : RX B) (hK : RK B n N) (hC : RC B) (hH : RH B) (hU : RU B) (hP : RPx B n u x) (s : SmX [3, 15, 16, 46] [11, 12, 13, 14, 15, 16, 17, 22] x B Z) (hO : RO Z) : RAll Z (N + 1) := by
  obtain ⟨⟨p1, p2, p3, p4, p5⟩, p6⟩ := hP
  have sm := s.toSm p2
  refine ⟨n, nd, hS.sm sm rfl rfl, hW.sm sm rfl (by omega), hX.sm sm rfl rfl, hO, ?_, (hK.sm sm rfl rfl).up, hC.sm sm (by rw [sm.1 0 (by decide) (by decide)]) (by rw [sm.1 0 (by decide) (by decide)]) rfl, hH.sm sm rfl rfl, hU.sm sm rfl rfl⟩
  have e9 := sm.1 9 (by decide) (by decide)
  refine ⟨u, x, p1, p2, by rw [e9]; exact p3, by rw [e9]; exact p4, by rw [sm.2.1 25 (by decide)]; exact p5, fun i hi => ?_⟩
  have o := p6 i hi
  have h1 : (x + 13 - u + i) % 13 ≠ x := by omega
  have h2 : (x + 13 - u + i) % 13 < 13 := Nat.mod_lt _ (by omega)
  generalize (x + 13 - u + i) % 13 = q at o h1 h2 ⊢
  have ks : ∀ c, c ≤ 4 → Z.1 (80 + 5 * q + c) = B.1 (80 + 5 * q + c) := fun c hc => s.1 _ (by omega) (by simp; omega) (by omega)
  exact o.fr (ks 0 (by omega)) (ks 1 (by omega)) (ks 2 (by omega)) (ks 3 (by omega)) (ks 4 (by omega)) (sm.1 47 (by decide) (by decide))
theorem actYes (hS : RS B n nd) (hW : RW B n 60 37 0) (hX : RX B) (hK : RK B n N) (hC : RC B) (hH : RH B) (hU : RU B) (hP : RPx B n u x) (s : SmX [3, 9, 15, 16, 37, 46, 47, 60, 61, 62, 63, 64] [11, 12, 13, 14, 15, 16, 17, 22, 25] x B Z) (f1 : Z.1 9 1 = nI ((x + 1) % 13)) (f2 : Z.1 9 2 = nI (min 12 (u + 1))) (f3 : Z.1 36 25 = nI (min 12 (u + 1)))
    (hn : ∀ c, 1 ≤ c → c ≤ 4 → ∀ t, t < 8 → Z.1 (80 + 5 * x + c) t = B.1 (60 + c) t) (h4 : Z.1 (80 + 5 * x) 4 = B.1 60 4) (h5 : Z.1 (80 + 5 * x) 5 = B.1 60 5) (h47 : ∀ j, j < 26 * min 12 (u + 1) → Z.1 47 j = rmJ B u 37 j) (hW2 : RW Z n 60 37 0) (hO : RO Z) : RAll Z (N + 1) := by
  obtain ⟨⟨p1, p2, p3, p4, p5⟩, p6⟩ := hP
  have sm := s.toSm p2
  refine ⟨n, nd, hS.sm sm rfl rfl, hW2, hX.sm sm rfl rfl, hO, ?_, (hK.sm sm rfl rfl).up, hC.sm sm (by rw [sm.1 0 (by decide) (by decide)]) (by rw [sm.1 0 (by decide) (by decide)]) rfl, hH.sm sm rfl rfl, hU.sm sm rfl rfl⟩
  exact RP.push hS.1.1 p1 p2 p6 hW f1 f2 f3 (fun k k1 k2 k3 => s.1 k (by omega) (by simp; omega) k3) hn h4 h5 h47
end AOP
theorem p_note {M : zM} {x : Nat} (h : M.1 9 1 = nI x) (hx : x < 13) : ∃ N, fX2_note 60 M = some N ∧ Bec (80 + 5 * x) 60 M N := by
  obtain ⟨N, e, b⟩ := p_become (x0 := 80 + 5 * x) (x1 := 60) (M := M) (slotSH hx) rfl (by omega)
  refine ⟨N, ?_, b⟩
  unfold fX2_note
  rw [h, if_pos (zinT hx (by omega)), nI_clamp (by omega), e]; rfl
theorem p_keepN {C : zM} {x u : Nat} (h1 : C.1 9 1 = nI x) (h2 : C.1 9 2 = nI u) (hx : x < 13) (hu : u ≤ 12) : fX2_keepNoted C = zSI (zSI C 9 1 (nI ((x + 1) % 13))) 9 2 (nI (min 12 (u + 1))) := by
  have e : (zSI C 9 1 (nI ((x + 1) % 13))).1 9 2 = nI u := by rw [gSI, if_neg (by omega)]; exact h2
  simp only [fX2_keepNoted, zlet, h1, nI_1, zrem13 (show x + 1 < 1000 by omega), e]
  rw [show (12 : Int32) = nI 12 from rfl, zmin_nI (by omega) (by omega)]
/-- frames of an act -/
def CY (w : Nat) (C D : zM) : Prop := D.2 = C.2 ∧ ∀ k, (k < w ∨ w + 4 < k) → k ≠ 15 → k ≠ 16 → D.1 k = C.1 k
def CN (C D : zM) : Prop := D.2 = C.2 ∧ ∀ k, k ≠ 15 → k ≠ 16 → D.1 k = C.1 k
def RN (R T : zM) : Prop := T.2.1 = R.2.1 ∧ (∀ j, j ≠ 13 → T.2.2 j = R.2.2 j) ∧ (∀ k, k ≠ 36 → k ≠ 46 → T.1 k = R.1 k) ∧ ∀ j, j ∉ [12, 13, 14, 15, 16, 17, 22] → T.1 36 j = R.1 36 j
theorem Wch.CY {w : Nat} {C D : zM} (h : Wch w C D) : CY w C D := ⟨h.1, fun k hk _ _ => h.2 k hk⟩
theorem CN.refl (C : zM) : CN C C := ⟨rfl, fun _ _ _ => rfl⟩
theorem RN.thrown (R : zM) : RN R (zSI R 36 12 0) := ⟨rfl, fun _ _ => rfl, fun k h1 _ => zSI_other _ _ _ h1, fun j hj => by rw [gSI]; simp at hj; rw [if_neg (by omega)]⟩
theorem RN.ofQ {R T : zM} (f : FrQ R T) : RN R T := ⟨f.2.2.1, f.2.2.2, f.1, fun j hj => by simp at hj; exact f.2.1 j (by omega) (by omega)⟩
theorem RN.trans {A B C : zM} (h : RN A B) (g : RN B C) : RN A C := ⟨g.1.trans h.1, fun j hj => (g.2.1 j hj).trans (h.2.1 j hj), fun k h1 h2 => (g.2.2.1 k h1 h2).trans (h.2.2.1 k h1 h2), fun j hj => (g.2.2.2 j hj).trans (h.2.2.2 j hj)⟩
theorem fX11_act_eq {kind x y r : Int32} {M Na D : zM} (h1 : fX2_note 60 M = some Na) (h2 : fX11_perform 60 kind x y Na = some (r, D)) : fX11_act kind x y M = some (r, if r < 0 then D else fX2_keepNoted D) := by
  unfold fX11_act
  rw [h1]
  simp only [Option.bind_some, h2, zp, zlet]
section OPACT
variable {M Na D T : zM} {N n nd u x : Nat} {r kind y z : Int32}
theorem opActNo (hS : RS M n nd) (hW : RW M n 60 37 0) (hX : RX M) (hO : RO M) (hK : RK M n N) (hC : RC M) (hH : RH M) (hU : RU M) (hP : RPx M n u x) (hb : Bec (80 + 5 * x) 60 M Na) (hc : CN Na D) (hr : RN D T) : RAll T (N + 1) := by
  obtain ⟨b1, b2, b3, b4, b5⟩ := hb
  refine actNo hS hW hX hK hC hH hU hP ⟨fun k k1 k2 k3 => ?_, fun j hj => ?_, ?_, ?_⟩ ?_
  · simp at k2
    rw [hr.2.2.1 k k1 (by omega), hc.2 k (by omega) (by omega), b2 k k3]
  · simp at hj
    have : x < 13 := hP.1.2.1
    rw [hr.2.2.2 j (by simp; omega), hc.2 36 (by omega) (by omega), b2 36 (by omega)]
  · rw [hr.2.1 19 (by omega), hc.1, b1]
  · rw [hr.2.1 20 (by omega), hc.1, b1]
  · refine hO.of ?_ ?_ ?_
    · rw [hr.2.2.1 3 (by omega) (by omega), hc.2 3 (by omega) (by omega), b2 3 (by omega)]
    · rw [hr.2.2.2 11 (by simp), hc.2 36 (by omega) (by omega), b2 36 (by omega)]
    · rw [hr.1, hc.1, b1]
/-- what the reference did to M1, where an act was done -/
def RYes (u : Nat) (M1 T : zM) : Prop := T.2.1 = M1.2.1 ∧ (∀ j, j ≠ 13 → T.2.2 j = M1.2.2 j) ∧ (∀ k, k ≠ 36 → k ≠ 37 → k ≠ 46 → k ≠ 47 → T.1 k = M1.1 k) ∧ (∀ j, j ∉ [12, 13, 14, 15, 16, 17, 22, 25] → T.1 36 j = M1.1 36 j) ∧ T.1 36 25 = nI (min 12 (u + 1)) ∧ ∀ j, j < 26 * min 12 (u + 1) → T.1 47 j = rmJ M1 u 37 j
theorem opActYes (hS : RS M n nd) (hW : RW M n 60 37 0) (hX : RX M) (hO : RO M) (hK : RK M n N) (hC : RC M) (hH : RH M) (hU : RU M) (hP : RPx M n u x) (hb : Bec (80 + 5 * x) 60 M Na) (hc : CY 60 Na D) (hr : RYes u (fX2_keepNoted D) T) (hW2 : RW T n 60 37 0) : RAll T (N + 1) := by
  obtain ⟨b1, b2, b3, b4, b5⟩ := hb
  have hx : x < 13 := hP.1.2.1
  have d9 : D.1 9 = M.1 9 := by rw [hc.2 9 (by omega) (by omega) (by omega), b2 9 (by omega)]
  rw [p_keepN (by rw [d9]; exact hP.1.2.2.1) (by rw [d9]; exact hP.1.2.2.2.1) hx hP.1.1] at hr
  generalize hM1 : zSI (zSI D 9 1 (nI ((x + 1) % 13))) 9 2 (nI (min 12 (u + 1))) = M1 at hr
  have q1 : ∀ k, k ≠ 9 → M1.1 k = D.1 k := fun k hk => by subst hM1; rw [zSI_other _ _ _ hk, zSI_other _ _ _ hk]
  have q2 : M1.2 = D.2 := by subst hM1; rfl
  obtain ⟨r1, r2, r3, r4, r5, r6⟩ := hr
  refine actYes hS hW hX hK hC hH hU hP ⟨fun k k1 k2 k3 => ?_, fun j hj => ?_, ?_, ?_⟩ ?_ ?_ r5 (fun c c1 c4 t ht => ?_) ?_ ?_ (fun j hj => ?_) hW2 ?_
  · simp at k2
    rw [r3 k k1 (by omega) (by omega) (by omega), q1 k (by omega), hc.2 k (by omega) (by omega) (by omega), b2 k k3]
  · simp at hj
    rw [r4 j (by simp; omega), q1 36 (by omega), hc.2 36 (by omega) (by omega) (by omega), b2 36 (by omega)]
  · rw [r2 19 (by omega), q2, hc.1, b1]
  · rw [r2 20 (by omega), q2, hc.1, b1]
  · rw [r3 9 (by omega) (by omega) (by omega) (by omega)]; subst hM1; rw [gSI, if_neg (by omega), gSI, if_pos ⟨rfl, rfl⟩]
  · rw [r3 9 (by omega) (by omega) (by omega) (by omega)]; subst hM1; rw [gSI, if_pos ⟨rfl, rfl⟩]
  · rw [r3 _ (by omega) (by omega) (by omega) (by omega), q1 _ (by omega), hc.2 _ (by omega) (by omega) (by omega), b3 c c1 c4 t ht]
  · rw [r3 _ (by omega) (by omega) (by omega) (by omega), q1 _ (by omega), hc.2 _ (by omega) (by omega) (by omega), b4]
  · rw [r3 _ (by omega) (by omega) (by omega) (by omega), q1 _ (by omega), hc.2 _ (by omega) (by omega) (by omega), b5]
  · rw [r6 j hj]
    unfold rmJ
    rw [q1 47 (by omega), q1 37 (by omega), hc.2 47 (by omega) (by omega) (by omega), hc.2 37 (by omega) (by omega) (by omega), b2 47 (by omega), b2 37 (by omega)]
  · refine hO.of ?_ ?_ ?_
    · rw [r3 3 (by omega) (by omega) (by omega) (by omega), q1 3 (by omega), hc.2 3 (by omega) (by omega) (by omega), b2 3 (by omega)]
    · rw [r4 11 (by simp), q1 36 (by omega), hc.2 36 (by omega) (by omega) (by omega), b2 36 (by omega)]
    · rw [r1, q2, hc.1, b1]
/-- the reference remembers, behind thrown = 0 and what leaves all that lasts -/
theorem RYes.of {M1 R0 R1 : zM} (h0 : RN M1 R0) (h1 : Rem 37 u R0 R1) (h2 : T.2.1 = R1.2.1 ∧ (∀ j, j ≠ 13 → T.2.2 j = R1.2.2 j) ∧ (∀ k, k ≠ 36 → k ≠ 37 → k ≠ 46 → T.1 k = R1.1 k) ∧ ∀ j, j ∉ [12, 13, 14, 15, 16, 17, 22] → T.1 36 j = R1.1 36 j) : RYes u M1 T := by
  obtain ⟨m1, m2, m3, m4, m5⟩ := h1
  obtain ⟨t1, t2, t3, t4⟩ := h2
  refine ⟨by rw [t1, m1, h0.1], fun j hj => by rw [t2 j hj, m1, h0.2.1 j hj], fun k k1 k2 k3 k4 => by rw [t3 k k1 k2 k3, m2 k k1 k4, h0.2.2.1 k k1 k3], fun j hj => ?_, ?_, fun j hj => ?_⟩
  · simp at hj
    rw [t4 j (by simp; omega), m3 j (by omega), h0.2.2.2 j (by simp; omega)]
  · rw [t4 25 (by simp), m4]
  · rw [t3 47 (by omega) (by omega) (by omega), m5 j hj]
    unfold rmJ
    rw [h0.2.2.1 47 (by omega) (by omega), h0.2.2.1 37 (by omega) (by omega)]
end OPACT
/-! loses, finds, gives -/
theorem agC_note {M Na : zM} {n nd x : Nat} (hS : RS M n nd) (hx : x < 13) (hb : Bec (80 + 5 * x) 60 M Na) : AgC M Na 60 n := ⟨by rw [hb.2.1 5 (by omega)]; exact hS.2.1.1, fun c hc => hb.2.1 _ (by omega)⟩
theorem keepN_rows (D : zM) : (fX2_keepNoted D).2 = D.2 ∧ ∀ k, k ≠ 9 → (fX2_keepNoted D).1 k = D.1 k := ⟨rfl, fun k hk => by
  unfold fX2_keepNoted zlet
  rw [zSI_other _ _ _ hk, zSI_other _ _ _ hk]⟩
theorem op_loses {M : zM} {N : Nat} (h : RAll M N) (y z : Int32) : OpS (fX11_loses y z) (fX12_loses y z) M N := by
  obtain ⟨n, nd, hS, hW, hX, hO, hP, hK, hC, hH, hU⟩ := h
  obtain ⟨u, x, hP⟩ := hP.x
  have hx : x < 13 := hP.1.2.1
  have h8 := hS.1.1
  obtain ⟨Na, en, hb⟩ := p_note hP.1.2.2.1 hx
  have hAg := agC_note hS hx hb
  have ef : ∀ r D, fX11_perform 60 108 y z Na = some (r, D) → fX11_loses y z M = some (r, if r < 0 then D else fX2_keepNoted D) := fun r D e => by
    unfold fX11_loses
    rw [fX11_act_eq en e]; rfl
  rcases A_lose h8 hW rfl (by omega) rfl (by omega) hAg y z with ⟨r, hr, e1, e2⟩ | ⟨t, r, D, ht, hy, hr, e1, hc, e2⟩
  · have hr0 : r < 0 := by rcases hr with rfl | rfl <;> decide
    have ag : AgR M (zSI Na 36 12 0) 37 n := ⟨by rw [gSI, if_neg (by omega), hb.2.1 36 (by omega)]; exact hS.2.1.2.1, by rw [zSI_other _ _ _ (by decide), hb.2.1 37 (by omega)]⟩
    refine ⟨r, Na, zSI Na 36 12 0, by rw [ef r Na e1, if_pos hr0], ?_, opActNo hS hW hX hO hK hC hH hU hP hb (CN.refl Na) (RN.thrown Na)⟩
    simp only [fX12_loses, zlet, e2 _ ag, Option.bind_some]
    rw [if_neg (by rcases hr with rfl | rfl <;> decide)]
  · have kr := keepN_rows D
    generalize hM1 : fX2_keepNoted D = M1 at kr
    have q36 : M1.1 36 = M.1 36 := by rw [kr.2 36 (by omega), hc.2 36 (by omega), hb.2.1 36 (by omega)]
    have q37 : M1.1 37 = M.1 37 := by rw [kr.2 37 (by omega), hc.2 37 (by omega), hb.2.1 37 (by omega)]
    have r25 : (zSI M1 36 12 0).1 36 25 = nI u := by rw [gSI, if_neg (by omega), q36]; exact hP.1.2.2.2.2
    obtain ⟨R1, em, hm⟩ := p_rem (x1 := 37) (M := zSI M1 36 12 0) rfl (by decide) r25 hP.1.1
    have ag0 : AgR M (zSI M1 36 12 0) 37 n := ⟨by rw [gSI, if_neg (by omega), q36]; exact hS.2.1.2.1, by rw [zSI_other _ _ _ (by decide), q37]⟩
    have ag1 : AgR M R1 37 n := ⟨by rw [hm.2.2.1 1 (by omega)]; exact ag0.1, by rw [hm.2.1 37 (by omega) (by omega)]; exact ag0.2⟩
    obtain ⟨-, w1, A, a1, a2⟩ := e2 R1 ag1
    subst hy
    have hT : RYes u (fX2_keepNoted D) (gsR R1 37 t 1 z) := by
      rw [hM1]
      exact RYes.of (RN.thrown M1) hm ⟨rfl, fun _ _ => rfl, fun k _ k2 _ => gsR_other _ _ _ k2, fun j _ => by rw [gsR_other _ _ _ (by omega)]⟩
    refine ⟨r, M1, gsR R1 37 t 1 z, by rw [ef r D e1, if_neg hr, hM1], ?_, opActYes hS hW hX hO hK hC hH hU hP hb hc.CY hT ?_⟩
    · simp only [fX12_loses, zlet, (e2 _ ag0).1, Option.bind_some]
      rw [if_pos (by decide), em]
      simp only [Option.bind_some, pX12_goes (a := 37) (how := 1) (who := z) (M := R1) rfl (show t < 8 by omega)]
      rw [show zSI (zSI (zSI R1 37 t 1) 37 (8 + t) z) 37 (16 + t) 0 = gsR R1 37 t 1 z from rfl, a1]
      simp only [Option.bind_some, a2]
    · have rr : ∀ k, 60 ≤ k → (gsR R1 37 t 1 z).1 k = (mix D (gsR R1 37 t 1 z)).1 k := fun k hk => by
        rw [mixC _ _ (by omega), gsR_other _ _ _ (by omega), hm.2.1 k (by omega) (by omega), zSI_other _ _ _ (by omega), kr.2 k (by omega)]
      exact w1.fr (rr _ (by omega)) (rr _ (by omega)) (rr _ (by omega)) (rr _ (by omega)) (rr _ (by omega)) (mixR _ _ (by omega)).symm
theorem op_finds {M : zM} {N : Nat} (h : RAll M N) (y z : Int32) : OpS (fX11_finds y z) (fX12_finds y z) M N := by
  obtain ⟨n, nd, hS, hW, hX, hO, hP, hK, hC, hH, hU⟩ := h
  obtain ⟨u, x, hP⟩ := hP.x
  have hx : x < 13 := hP.1.2.1
  have h8 := hS.1.1
  obtain ⟨Na, en, hb⟩ := p_note hP.1.2.2.1 hx
  have hAg := agC_note hS hx hb
  have ef : ∀ r D, fX11_perform 60 102 y z Na = some (r, D) → fX11_finds y z M = some (r, if r < 0 then D else fX2_keepNoted D) := fun r D e => by
    unfold fX11_finds
    rw [fX11_act_eq en e]; rfl
  rcases A_find h8 hW rfl (by omega) rfl (by omega) hAg y z with ⟨r, hr, e1, e2⟩ | ⟨t, r, D, ht, hy, hr, e1, hc, e2⟩
  · have hr0 : r < 0 := by rcases hr with rfl | rfl <;> decide
    have ag : AgR M (zSI Na 36 12 0) 37 n := ⟨by rw [gSI, if_neg (by omega), hb.2.1 36 (by omega)]; exact hS.2.1.2.1, by rw [zSI_other _ _ _ (by decide), hb.2.1 37 (by omega)]⟩
    refine ⟨r, Na, zSI Na 36 12 0, by rw [ef r Na e1, if_pos hr0], ?_, opActNo hS hW hX hO hK hC hH hU hP hb (CN.refl Na) (RN.thrown Na)⟩
    simp only [fX12_finds, zlet, e2 _ ag, Option.bind_some]
    rw [if_neg (by rcases hr with rfl | rfl <;> decide)]
  · have kr := keepN_rows D
    generalize hM1 : fX2_keepNoted D = M1 at kr
    have q36 : M1.1 36 = M.1 36 := by rw [kr.2 36 (by omega), hc.2 36 (by omega), hb.2.1 36 (by omega)]
    have q37 : M1.1 37 = M.1 37 := by rw [kr.2 37 (by omega), hc.2 37 (by omega), hb.2.1 37 (by omega)]
    have r25 : (zSI M1 36 12 0).1 36 25 = nI u := by rw [gSI, if_neg (by omega), q36]; exact hP.1.2.2.2.2
    obtain ⟨R1, em, hm⟩ := p_rem (x1 := 37) (M := zSI M1 36 12 0) rfl (by decide) r25 hP.1.1
    have ag0 : AgR M (zSI M1 36 12 0) 37 n := ⟨by rw [gSI, if_neg (by omega), q36]; exact hS.2.1.2.1, by rw [zSI_other _ _ _ (by decide), q37]⟩
    have ag1 : AgR M R1 37 n := ⟨by rw [hm.2.2.1 1 (by omega)]; exact ag0.1, by rw [hm.2.1 37 (by omega) (by omega)]; exact ag0.2⟩
    obtain ⟨-, w1, A, a1, a2⟩ := e2 R1 ag1
    subst hy
    have hT : RYes u (fX2_keepNoted D) (gsR R1 37 t 2 y) := by
      rw [hM1]
      exact RYes.of (RN.thrown M1) hm ⟨rfl, fun _ _ => rfl, fun k _ k2 _ => gsR_other _ _ _ k2, fun j _ => by rw [gsR_other _ _ _ (by omega)]⟩
    refine ⟨r, M1, gsR R1 37 t 2 y, by rw [ef r D e1, if_neg hr, hM1], ?_, opActYes hS hW hX hO hK hC hH hU hP hb hc.CY hT ?_⟩
    · simp only [fX12_finds, zlet, (e2 _ ag0).1, Option.bind_some]
      rw [if_pos (by decide), em]
      simp only [Option.bind_some, pX12_goes (a := 37) (how := 2) (who := y) (M := R1) rfl (show t < 8 by omega)]
      rw [show zSI (zSI (zSI R1 37 t 2) 37 (8 + t) y) 37 (16 + t) 0 = gsR R1 37 t 2 y from rfl, a1]
      simp only [Option.bind_some, a2]
    · have rr : ∀ k, 60 ≤ k → (gsR R1 37 t 2 y).1 k = (mix D (gsR R1 37 t 2 y)).1 k := fun k hk => by
        rw [mixC _ _ (by omega), gsR_other _ _ _ (by omega), hm.2.1 k (by omega) (by omega), zSI_other _ _ _ (by omega), kr.2 k (by omega)]
      exact w1.fr (rr _ (by omega)) (rr _ (by omega)) (rr _ (by omega)) (rr _ (by omega)) (rr _ (by omega)) (mixR _ _ (by omega)).symm
theorem op_gives {M : zM} {N : Nat} (h : RAll M N) (y z : Int32) : OpS (fX11_gives y z) (fX12_gives y z) M N := by
  obtain ⟨n, nd, hS, hW, hX, hO, hP, hK, hC, hH, hU⟩ := h
  obtain ⟨u, x, hP⟩ := hP.x
  have hx : x < 13 := hP.1.2.1
  have h8 := hS.1.1
  obtain ⟨Na, en, hb⟩ := p_note hP.1.2.2.1 hx
  have hAg := agC_note hS hx hb
  have ef : ∀ r D, fX11_perform 60 103 y z Na = some (r, D) → fX11_gives y z M = some (r, if r < 0 then D else fX2_keepNoted D) := fun r D e => by
    unfold fX11_gives
    rw [fX11_act_eq en e]; rfl
  rcases A_give h8 hW rfl (by omega) hAg y z with ⟨r, hr, e1, e2⟩ | ⟨t, r, D, ht, hy, hr, e1, hc, e3, e2⟩
  · have hr0 : r < 0 := by rcases hr with rfl | rfl <;> decide
    have ag : AgR M (zSI Na 36 12 0) 37 n := ⟨by rw [gSI, if_neg (by omega), hb.2.1 36 (by omega)]; exact hS.2.1.2.1, by rw [zSI_other _ _ _ (by decide), hb.2.1 37 (by omega)]⟩
    refine ⟨r, Na, zSI Na 36 12 0, by rw [ef r Na e1, if_pos hr0], ?_, opActNo hS hW hX hO hK hC hH hU hP hb (CN.refl Na) (RN.thrown Na)⟩
    simp only [fX12_gives, zlet, e2 _ ag, Option.bind_some]
    rw [if_neg (by rcases hr with rfl | rfl <;> decide)]
  · have kr := keepN_rows D
    generalize hM1 : fX2_keepNoted D = M1 at kr
    have q36 : M1.1 36 = M.1 36 := by rw [kr.2 36 (by omega), hc.2 36 (by omega), hb.2.1 36 (by omega)]
    have q37 : M1.1 37 = M.1 37 := by rw [kr.2 37 (by omega), hc.2 37 (by omega), hb.2.1 37 (by omega)]
    have r25 : (zSI M1 36 12 0).1 36 25 = nI u := by rw [gSI, if_neg (by omega), q36]; exact hP.1.2.2.2.2
    obtain ⟨R1, em, hm⟩ := p_rem (x1 := 37) (M := zSI M1 36 12 0) rfl (by decide) r25 hP.1.1
    have ag0 : AgR M (zSI M1 36 12 0) 37 n := ⟨by rw [gSI, if_neg (by omega), q36]; exact hS.2.1.2.1, by rw [zSI_other _ _ _ (by decide), q37]⟩
    have ag1 : AgR M R1 37 n := ⟨by rw [hm.2.2.1 1 (by omega)]; exact ag0.1, by rw [hm.2.1 37 (by omega) (by omega)]; exact ag0.2⟩
    obtain ⟨-, w1⟩ := e2 R1 ag1
    subst hy
    have hT : RYes u (fX2_keepNoted D) (zSI R1 37 (8 + t) z) := by
      rw [hM1]
      exact RYes.of (RN.thrown M1) hm ⟨rfl, fun _ _ => rfl, fun k _ k2 _ => zSI_other _ _ _ k2, fun j _ => by rw [zSI_other _ _ _ (by omega)]⟩
    refine ⟨r, M1, zSI R1 37 (8 + t) z, by rw [ef r D e1, if_neg hr, hM1], ?_, opActYes hS hW hX hO hK hC hH hU hP hb hc.CY hT ?_⟩
    · simp only [fX12_gives, zlet, (e2 _ ag0).1, Option.bind_some]
      rw [if_pos (by decide), em]
      simp only [Option.bind_some, show (8 : Int32) + nI t = nI (8 + t) from nI_add 8 t, if_pos (zinT (show 8 + t < 26 by omega) (by omega)), nI_clamp (show 8 + t < 2 ^ 31 by omega), ag1.2, ← e3]
    · have rr : ∀ k, 60 ≤ k → (zSI R1 37 (8 + t) z).1 k = (mix D (zSI R1 37 (8 + t) z)).1 k := fun k hk => by
        rw [mixC _ _ (by omega), zSI_other _ _ _ (by omega), hm.2.1 k (by omega) (by omega), zSI_other _ _ _ (by omega), kr.2 k (by omega)]
      exact w1.fr (rr _ (by omega)) (rr _ (by omega)) (rr _ (by omega)) (rr _ (by omega)) (rr _ (by omega)) (mixR _ _ (by omega)).symm
