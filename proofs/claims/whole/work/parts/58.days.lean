/-! rows told, with what stays -/
def TC (M N : zM) : Prop := (∀ k, k ≠ 3 → N.1 k = M.1 k) ∧ (∀ k, k ≠ 4 → N.2.1 k = M.2.1 k) ∧ N.2.2 = M.2.2
def TM (M N : zM) : Prop := (∀ k, k ≠ 36 → N.1 k = M.1 k) ∧ (∀ j, j ≠ 11 → N.1 36 j = M.1 36 j) ∧ (∀ k, k ≠ 42 → N.2.1 k = M.2.1 k) ∧ N.2.2 = M.2.2
theorem TC.trans {A B C : zM} (h : TC A B) (g : TC B C) : TC A C := ⟨fun k a => (g.1 k a).trans (h.1 k a), fun k a => (g.2.1 k a).trans (h.2.1 k a), g.2.2.trans h.2.2⟩
theorem TM.trans {A B C : zM} (h : TM A B) (g : TM B C) : TM A C := ⟨fun k a => (g.1 k a).trans (h.1 k a), fun k a => (g.2.1 k a).trans (h.2.1 k a), fun k a => (g.2.2.1 k a).trans (h.2.2.1 k a), g.2.2.2.trans h.2.2.2⟩
theorem vC_begin {α : Type} {M : zM} {f : zM → Option α} {K : α → Prop} (k : ∀ N, TC M N → CR N [] → wpO (f N) K) : wpO (zlet (fX3_begin M) f) K :=
  k _ ⟨fun a h => by rw [pX3_begin, zSI_other _ _ _ h], fun _ _ => rfl, rfl⟩ ⟨by rw [pX3_begin, gSI]; rfl, fun j v h => by simp at h⟩
theorem vC_tell {α : Type} {M : zM} {l : List Int64} {v : Int64} {f : zM → Option α} {K : α → Prop} (hR : CR M l) (hl : l.length < 16) (k : ∀ N, TC M N → CR N (l ++ [v]) → wpO (f N) K) : wpO ((fX3_tell v M).bind f) K := by
  refine wpO_ek (pX3_tell v hR.1 hl) (k _ ⟨fun a h => by rw [zSI_other _ _ _ h]; rfl, fun a h => ?_, rfl⟩ ⟨?_, ?_⟩)
  · show (zSJ M 4 l.length v).2.1 a = _
    rw [zSJ_other _ _ _ h]
  · rw [gSI, if_pos ⟨rfl, rfl⟩, List.length_append]; rfl
  · intro j w hj
    show (zSJ M 4 l.length v).2.1 4 j = w
    rw [gSJ]
    rcases snoc_get hj with ⟨h1, h2⟩ | ⟨rfl, rfl⟩
    · rw [if_neg (by omega)]; exact hR.2 j w h2
    · rw [if_pos ⟨rfl, rfl⟩]
theorem vM_begin {α : Type} {M : zM} {f : zM → Option α} {K : α → Prop} (k : ∀ N, TM M N → MR N [] → wpO (f N) K) : wpO (zlet (zSI M 36 11 0) f) K :=
  k _ ⟨fun a h => zSI_other _ _ _ h, fun j h => by rw [gSI, if_neg (by omega)], fun _ _ => rfl, rfl⟩ ⟨by rw [gSI]; rfl, fun j v h => by simp at h⟩
theorem vM_tell {α : Type} {M : zM} {l : List Int64} {v : Int64} {f : zM → Option α} {K : α → Prop} (hR : MR M l) (hl : l.length < 16) (k : ∀ N, TM M N → MR N (l ++ [v]) → wpO (f N) K) : wpO ((fX12_tell v M).bind f) K := by
  refine wpO_ek (pX12_tell v hR.1 hl) (k _ ⟨fun a h => by rw [zSI_other _ _ _ h]; rfl, fun j h => by rw [gSI, if_neg (by omega)]; rfl, fun a h => ?_, rfl⟩ ⟨?_, ?_⟩)
  · show (zSJ M 42 l.length v).2.1 a = _
    rw [zSJ_other _ _ _ h]
  · rw [gSI, if_pos ⟨rfl, rfl⟩, List.length_append]; rfl
  · intro j w hj
    show (zSJ M 42 l.length v).2.1 42 j = w
    rw [gSJ]
    rcases snoc_get hj with ⟨h1, h2⟩ | ⟨rfl, rfl⟩
    · rw [if_neg (by omega)]; exact hR.2 j w h2
    · rw [if_pos ⟨rfl, rfl⟩]
/-! days -/
theorem c_tail {D : zM} {nd : Nat} {A G : Int32} {v : Int64} {f : zM → Option (Int32 × zM)} {K : Int32 × zM → Prop} (hd : D.1 5 4 = nI nd) (h6 : nd ≤ 6) (hA : bsA (fun t => decide (D.1 61 t = 6)) 8 = A) (hG : bsA (fun t => decide (D.1 8 t &&& (A ^^^ (-1)) = 0)) nd = G) (k : ∀ Z, TC D Z → CR Z [v, G.toInt64] → wpO (f Z) K) : wpO (zlet (fX3_begin D) fun M48 => (fX3_tell v M48).bind fun M57 => (fX10_heldBy 60 6 M57).bind fun r8 => (fX7_doableWith r8 M57).bind fun r9 => (fX3_tell r9.toInt64 M57).bind f) K := by
  refine vC_begin (fun N1 t1 r1 => vC_tell r1 (Nat.le_of_ble_eq_true rfl) (fun N2 t2 r2 => ?_))
  have t := t1.trans t2
  refine wpO_ek (pX10_heldBy rfl) ?_
  rw [t.1 61 (by omega), hA]
  refine wpO_ek (pX7_doableWith (nd := nd) (by rw [t.1 5 (by omega)]; exact hd) h6) ?_
  rw [t.1 8 (by omega), hG]
  exact vC_tell r2 (Nat.le_of_ble_eq_true rfl) (fun N3 t3 r3 => k N3 (t.trans t3) r3)
theorem m_tail {S : zM} {n nd : Nat} {A G : Int32} {v : Int64} {f : zM → Option (Int32 × zM)} {K : Int32 × zM → Prop} (hn : S.1 36 1 = nI n) (h8 : n ≤ 8) (hd : S.1 36 2 = nI nd) (h6 : nd ≤ 6) (hA : bsA (fun t => decide (S.1 37 t = 0 ∧ S.1 37 (8 + t) = 6)) n = A) (hG : bsA (fun t => decide (S.1 40 t &&& (A ^^^ (-1)) = 0)) nd = G) (k : ∀ Z, TM S Z → MR Z [v, G.toInt64] → wpO (f Z) K) : wpO (zlet (zSI S 36 11 0) fun M41 => (fX12_tell v M41).bind fun M47 => (fX12_hadBy 37 6 M47).bind fun r6 => (fX12_canWith r6 M47).bind fun r7 => (fX12_tell r7.toInt64 M47).bind f) K := by
  refine vM_begin (fun N1 t1 r1 => vM_tell r1 (Nat.le_of_ble_eq_true rfl) (fun N2 t2 r2 => ?_))
  have t := t1.trans t2
  refine wpO_ek (pX12_hadBy (n := n) (by rw [t.2.1 1 (by omega)]; exact hn) h8 rfl) ?_
  rw [t.1 37 (by omega), hA]
  refine wpO_ek (pX12_canWith (nd := nd) (by rw [t.2.1 2 (by omega)]; exact hd) h6) ?_
  rw [t.1 40 (by omega), hG]
  exact vM_tell r2 (Nat.le_of_ble_eq_true rfl) (fun N3 t3 r3 => k N3 (t.trans t3) r3)
theorem p_days0C (w : Nat) (τ : Int32) (C : zM) : fX10_passDays w 0 τ C = some (0, C) := by
  unfold fX10_passDays
  rw [show fX10_passDays_L5 w 0 τ 4000 0 0 C = some (0, C) from rfl]; rfl
theorem p_days0R (a : Nat) (R : zM) : fX12_goDays a 0 R = some (0, R) := by
  unfold fX12_goDays
  rw [show fX12_goDays_L5 a 0 4000 0 0 R = some (0, R) from rfl]; rfl
/-- both see the same of what the state has, and can -/
theorem mix_had {D S : zM} {n nd : Nat} (h8 : n ≤ 8) (hW : RW (mix D S) n 60 37 0) (hn : ∀ d, d < nd → D.1 8 d = S.1 40 d) : ∃ A G, bsA (fun t => decide (D.1 61 t = 6)) 8 = A ∧ bsA (fun t => decide (D.1 8 t &&& (A ^^^ (-1)) = 0)) nd = G ∧ bsA (fun t => decide (S.1 37 t = 0 ∧ S.1 37 (8 + t) = 6)) n = A ∧ bsA (fun t => decide (S.1 40 t &&& (A ^^^ (-1)) = 0)) nd = G := by
  refine ⟨_, _, rfl, rfl, ?_, ?_⟩
  · have := RW_held hW h8 (q := 6) (by omega)
    rw [mixC _ _ (by omega), mixR _ _ (by omega)] at this
    simp only [Nat.zero_add] at this
    exact this.symm
  · exact bsA_congr (fun d hd => by rw [hn d hd])
theorem op_days {M : zM} {N : Nat} (h : RAll M N) (y : Int32) : OpS (fX11_days y) (fX12_days y) M N := by
  have h0 := h
  obtain ⟨n, nd, hS, hW, hX, hO, hP, hK, hC, hH, hU⟩ := h
  obtain ⟨u, x, hP⟩ := hP.x
  have hx : x < 13 := hP.1.2.1
  have h8 := hS.1.1
  have h6 := hS.1.2
  rcases split_ix y (n := 100) (by omega) with hy | ⟨k, hk, rfl⟩
  · refine opN (r := -1) h0 ?_ ?_
    · unfold fX11_days
      rw [if_pos (isSp0 hy)]
    · simp only [fX12_days, zlet]
      rw [if_pos (show fX12_in y 0 99 = 0 from in0 (n := 100) (by omega) hy)]
  · have c1 : ¬ fX11_isSpan (nI k) = 0 := by rw [isSp1 hk]; decide
    have m1 : ¬ fX12_in (nI k) 0 99 = 0 := by rw [show fX12_in (nI k) 0 99 = 1 from in1 (n := 100) (by omega) hk]; decide
    obtain ⟨Na, en, hb⟩ := p_note hP.1.2.2.1 hx
    have kN : ∀ k, k < 80 → Na.1 k = M.1 k := fun k hk => hb.2.1 k (by omega)
    have hτ : Na.1 0 17 = M.1 36 3 := by rw [kN 0 (by omega)]; exact hC.2.1
    rcases Nat.eq_zero_or_pos k with hz | hz
    · subst hz
      have hWm : ∀ S : zM, S.1 37 = M.1 37 → RW (mix Na S) n 60 37 0 := fun S e => hW.fr (by rw [mixC _ _ (by omega), kN _ (by omega)]) (by rw [mixC _ _ (by omega), kN _ (by omega)]) (by rw [mixC _ _ (by omega), kN _ (by omega)]) (by rw [mixC _ _ (by omega), kN _ (by omega)]) (by rw [mixC _ _ (by omega), kN _ (by omega)]) (by rw [mixR _ _ (by omega), e])
      obtain ⟨A, G, g1, g2, g3, g4⟩ := mix_had (nd := nd) h8 (hWm M rfl) (fun d hd => by rw [kN 8 (by omega)]; exact (hS.2.2.2.2 d hd).1)
      have hc : wpO (fX11_days (nI 0) M) (fun q => q.1 = fJ6_bitCount_0f7a4 0 ∧ TC Na q.2 ∧ CR q.2 [(0 : Int32).toInt64, G.toInt64]) := by
        unfold fX11_days
        refine wpO_fk c1 (wpO_ek en (wpO_ek (p_days0C 60 _ Na) (wpO_pk (wpO_lk ?_))))
        rw [if_pos (show nI 0 ≤ 0 by decide)]
        exact c_tail (nd := nd) (A := A) (by rw [kN 5 (by omega)]; exact hS.2.1.2.2.1) h6 g1 g2 (fun Z t r => wpO_ret ⟨rfl, t, r⟩)
      obtain ⟨⟨r1, M1⟩, e1, rfl, t1, cr⟩ := hc
      dsimp only at t1 cr
      have k1 : ∀ k, k < 80 → k ≠ 3 → M1.1 k = M.1 k := fun k a b => by rw [t1.1 k b, kN k a]
      generalize hR0 : zSI M1 36 12 0 = R0
      have q37 : ∀ k, 36 < k → k < 80 → R0.1 k = M.1 k := fun k a b => by subst hR0; rw [zSI_other _ _ _ (by omega), k1 k b (by omega)]
      have q36 : ∀ j, j ≠ 12 → R0.1 36 j = M.1 36 j := fun j hj => by subst hR0; rw [gSI, if_neg (by omega), k1 36 (by omega) (by omega)]
      have hm : wpO (fX12_days (nI 0) M1) (fun q => q.1 = fJ6_bitCount_0f7a4 0 ∧ TM R0 q.2 ∧ MR q.2 [(0 : Int32).toInt64, G.toInt64]) := by
        unfold fX12_days
        refine wpO_lk ?_
        rw [hR0]
        refine wpO_fk m1 (wpO_ek (v := R0) (by rw [if_pos (show nI 0 ≤ 0 by decide)]) (wpO_ek (p_days0R 37 R0) (wpO_pk ?_)))
        exact m_tail (n := n) (nd := nd) (A := A) (by rw [q36 1 (by omega)]; exact hS.2.1.2.1) h8 (by rw [q36 2 (by omega)]; exact hS.2.1.2.2.2) h6 (by rw [q37 37 (by omega) (by omega)]; exact g3) (by rw [q37 40 (by omega) (by omega)]; exact g4) (fun Z t r => wpO_ret ⟨rfl, t, r⟩)
      obtain ⟨⟨r2, T⟩, e2, rfl, t2, mr⟩ := hm
      dsimp only at t2 mr
      have rT : ∀ k, k ≠ 36 → T.1 k = M1.1 k := fun k hk => by rw [t2.1 k hk]; subst hR0; rw [zSI_other _ _ _ hk]
      refine ⟨_, M1, T, e1, e2, actNo hS hW hX hK hC hH hU hP ⟨fun k k1 k2 k3 => ?_, fun j hj => ?_, ?_, ?_⟩ ⟨_, Nat.le_of_ble_eq_true rfl, cr.fr (rT 3 (by omega)) ?_, mr⟩⟩
      · simp at k2
        rw [rT k k1, t1.1 k (by omega), hb.2.1 k k3]
      · simp at hj
        rw [t2.2.1 j (by omega), q36 j (by omega)]
      · rw [t2.2.2.2]; subst hR0; show M1.2.2 19 = _; rw [t1.2.2, hb.1]
      · rw [t2.2.2.2]; subst hR0; show M1.2.2 20 = _; rw [t1.2.2, hb.1]
      · rw [t2.2.2.1 4 (by omega)]; subst hR0; rfl
    · have hWm : ∀ S : zM, S.1 37 = M.1 37 → RW (mix Na S) n 60 37 0 := fun S e => hW.fr (by rw [mixC _ _ (by omega), kN _ (by omega)]) (by rw [mixC _ _ (by omega), kN _ (by omega)]) (by rw [mixC _ _ (by omega), kN _ (by omega)]) (by rw [mixC _ _ (by omega), kN _ (by omega)]) (by rw [mixC _ _ (by omega), kN _ (by omega)]) (by rw [mixR _ _ (by omega), e])
      have nz : ¬ nI k ≤ 0 := leF (b := 0) hz (by omega)
      obtain ⟨v, D, S0, v1, v2, v3, v4, v5, v6⟩ := A_days h8 (hWm M rfl) rfl (by omega) rfl (by omega) (show k < 1000 by omega) hS.2.1.2.1
      have kD : ∀ k, k < 60 ∨ (64 < k ∧ k < 80) → D.1 k = M.1 k := fun k hk => by rw [v5.2 k (by omega), kN k (by omega)]
      have kp := p_keepN (C := D) (x := x) (u := u) (by rw [kD 9 (by omega)]; exact hP.1.2.2.1) (by rw [kD 9 (by omega)]; exact hP.1.2.2.2.1) hx hP.1.1
      have kr := keepN_rows D
      generalize hD1 : fX2_keepNoted D = D1 at kp kr
      have kD1 : ∀ k, k < 60 ∨ (64 < k ∧ k < 80) → k ≠ 9 → D1.1 k = M.1 k := fun k a b => by rw [kr.2 k b, kD k a]
      obtain ⟨A, G, g1, g2, g3, g4⟩ := mix_had (nd := nd) h8 v4 (fun d hd => by rw [kD 8 (by omega), v6.2 40 (by omega)]; exact (hS.2.2.2.2 d hd).1)
      have hc : wpO (fX11_days (nI k) M) (fun q => q.1 = fJ6_bitCount_0f7a4 (nI v) ∧ TC D1 q.2 ∧ CR q.2 [(nI v).toInt64, G.toInt64]) := by
        unfold fX11_days
        refine wpO_fk c1 (wpO_ek en (wpO_ek (v := (nI v, D)) (by rw [hτ]; exact v2) (wpO_pk (wpO_lk ?_))))
        rw [if_neg nz, show (zlet (fX2_keepNoted D) fun M41 => M41) = D1 from hD1]
        exact c_tail (nd := nd) (A := A) (by rw [kD1 5 (by omega) (by omega)]; exact hS.2.1.2.2.1) h6 (by rw [kr.2 61 (by omega)]; exact g1) (by rw [kr.2 8 (by omega)]; exact g2) (fun Z t r => wpO_ret ⟨rfl, t, r⟩)
      obtain ⟨⟨r1, M1⟩, e1, rfl, t1, cr⟩ := hc
      dsimp only at t1 cr
      generalize hR0 : zSI M1 36 12 0 = R0
      have kM1 : ∀ k, k < 60 ∨ (64 < k ∧ k < 80) → k ≠ 9 → k ≠ 3 → M1.1 k = M.1 k := fun k a b c => by rw [t1.1 k c, kD1 k a b]
      have q37 : ∀ k, 36 < k → k < 60 → R0.1 k = M.1 k := fun k a b => by subst hR0; rw [zSI_other _ _ _ (by omega), kM1 k (by omega) (by omega) (by omega)]
      have q36 : ∀ j, j ≠ 12 → R0.1 36 j = M.1 36 j := fun j hj => by subst hR0; rw [gSI, if_neg (by omega), kM1 36 (by omega) (by omega) (by omega)]
      have rR0 : ∀ k, k ≠ 36 → R0.1 k = M1.1 k := fun k hk => by subst hR0; rw [zSI_other _ _ _ hk]
      have rR2 : R0.2 = M1.2 := by subst hR0; rfl
      obtain ⟨R1, em, m1', m2', m3', m4', m5'⟩ := p_rem (x1 := 37) (M := R0) rfl (by decide) (by rw [q36 25 (by omega)]; exact hP.1.2.2.2.2) hP.1.1
      have e37 : R1.1 37 = M.1 37 := by rw [m2' 37 (by omega) (by omega), q37 37 (by omega) (by omega)]
      have e1n : R1.1 36 1 = nI n := by rw [m3' 1 (by omega), q36 1 (by omega)]; exact hS.2.1.2.1
      have e3 : R1.1 36 3 = M.1 36 3 := by rw [m3' 3 (by omega), q36 3 (by omega)]
      obtain ⟨v', D', S, w1, w2, w3, w4, w5, w6⟩ := A_days h8 (hWm R1 e37) rfl (by omega) rfl (by omega) (show k < 1000 by omega) e1n
      rw [e3, v2] at w2
      obtain ⟨ev, eD⟩ := Prod.mk.inj (Option.some.inj w2)
      subst eD
      rw [← ev] at w3
      have s37 : bsA (fun t => decide (S.1 37 t = 0 ∧ S.1 37 (8 + t) = 6)) n = A := by
        have := RW_held w4 h8 (q := 6) (by omega)
        rw [mixC _ _ (by omega), mixR _ _ (by omega)] at this
        simp only [Nat.zero_add] at this
        rw [← g1]
        exact this.symm
      have hm : wpO (fX12_days (nI k) M1) (fun q => q.1 = fJ6_bitCount_0f7a4 (nI v) ∧ TM S q.2 ∧ MR q.2 [(nI v).toInt64, G.toInt64]) := by
        unfold fX12_days
        refine wpO_lk ?_
        rw [hR0]
        refine wpO_fk m1 (wpO_ek (v := R1) (by rw [if_neg nz, em]; rfl) (wpO_ek w3 (wpO_pk ?_)))
        refine m_tail (n := n) (nd := nd) (A := A) (by rw [w6.2 36 (by omega)]; exact e1n) h8 (by rw [w6.2 36 (by omega), m3' 2 (by omega), q36 2 (by omega)]; exact hS.2.1.2.2.2) h6 s37 ?_ (fun Z t r => wpO_ret ⟨rfl, t, r⟩)
        rw [w6.2 40 (by omega), m2' 40 (by omega) (by omega), q37 40 (by omega) (by omega), ← g4]
        rw [v6.2 40 (by omega)]
      obtain ⟨⟨r2, T⟩, e2, rfl, t2, mr⟩ := hm
      dsimp only at t2 mr
      have rT : ∀ k, k ≠ 36 → k ≠ 37 → k ≠ 47 → T.1 k = M1.1 k := fun k a b c => by rw [t2.1 k a, w6.2 k b, m2' k a c, rR0 k a]
      have rD : ∀ k, k ≠ 36 → k ≠ 37 → k ≠ 47 → k ≠ 3 → k ≠ 9 → T.1 k = D.1 k := fun k a b c d e => by rw [rT k a b c, t1.1 k d, kr.2 k e]
      refine ⟨_, M1, T, e1, e2, actYes hS hW hX hK hC hH hU hP ⟨fun k k1 k2 k3 => ?_, fun j hj => ?_, ?_, ?_⟩ ?_ ?_ ?_ (fun c c1 c4 t ht => ?_) ?_ ?_ (fun j hj => ?_) ?_ ⟨_, Nat.le_of_ble_eq_true rfl, cr.fr (rT 3 (by omega) (by omega) (by omega)) ?_, mr⟩⟩
      · simp at k2
        rw [rD k k1 (by omega) (by omega) (by omega) (by omega), v5.2 k (by omega), hb.2.1 k k3]
      · simp at hj
        rw [t2.2.1 j (by omega), w6.2 36 (by omega), m3' j (by omega), q36 j (by omega)]
      · rw [t2.2.2.2, w6.1, m1', rR2, t1.2.2, kr.1, v5.1, hb.1]
      · rw [t2.2.2.2, w6.1, m1', rR2, t1.2.2, kr.1, v5.1, hb.1]
      · rw [rT 9 (by omega) (by omega) (by omega), t1.1 9 (by omega), kp, gSI, if_neg (by omega), gSI, if_pos ⟨rfl, rfl⟩]
      · rw [rT 9 (by omega) (by omega) (by omega), t1.1 9 (by omega), kp, gSI, if_pos ⟨rfl, rfl⟩]
      · rw [t2.2.1 25 (by omega), w6.2 36 (by omega), m4']
      · rw [rD _ (by omega) (by omega) (by omega) (by omega) (by omega), v5.2 _ (by omega), hb.2.2.1 c c1 c4 t ht]
      · rw [rD _ (by omega) (by omega) (by omega) (by omega) (by omega), v5.2 _ (by omega), hb.2.2.2.1]
      · rw [rD _ (by omega) (by omega) (by omega) (by omega) (by omega), v5.2 _ (by omega), hb.2.2.2.2]
      · rw [t2.1 47 (by omega), w6.2 47 (by omega), m5' j hj]
        unfold rmJ
        rw [q37 47 (by omega) (by omega), q37 37 (by omega) (by omega)]
      · have rr : ∀ k, 60 ≤ k → T.1 k = (mix D S).1 k := fun k hk => by
          rw [mixC _ _ (by omega), rD k (by omega) (by omega) (by omega) (by omega) (by omega)]
        exact w4.fr (rr _ (by omega)) (rr _ (by omega)) (rr _ (by omega)) (rr _ (by omega)) (rr _ (by omega)) (by rw [mixR _ _ (by omega), t2.1 37 (by omega)])
      · rw [t2.2.2.1 4 (by omega), w6.1, m1', rR2]
