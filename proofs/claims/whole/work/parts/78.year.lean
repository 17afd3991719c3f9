/-! year -/
section YOP
variable {B Z : zM} {n nd N u x : Nat}
theorem yearNo (hS : RS B n nd) (hW : RW B n 60 37 0) (hK : RK B n N) (hC : RC B) (hH : RH B) (hU : RU B) (hP : RPx B n u x) (s : SmX [1, 3, 15, 16, 22, 23, 24, 25, 46, 48, 50] [9, 11, 12, 13, 14, 15, 16, 17, 22] x B Z) (z1 : Z.1 1 1 = 0) (z9 : Z.1 36 9 = 0) (hO : RO Z) : RAll Z (N + 1) := by
  obtain ⟨⟨p1, p2, p3, p4, p5⟩, p6⟩ := hP
  have sm := s.toSm p2
  refine ⟨n, nd, hS.sm sm rfl rfl, hW.sm sm rfl (by omega), RX.empty z1 z9, hO, ?_, (hK.sm sm rfl rfl).up, hC.sm sm (by rw [sm.1 0 (by decide) (by decide)]) (by rw [sm.1 0 (by decide) (by decide)]) rfl, hH.sm sm rfl rfl, hU.sm sm rfl rfl⟩
  have e9 := sm.1 9 (by decide) (by decide)
  refine ⟨u, x, p1, p2, by rw [e9]; exact p3, by rw [e9]; exact p4, by rw [sm.2.1 25 (by decide)]; exact p5, fun i hi => ?_⟩
  have o := p6 i hi
  have h1 : (x + 13 - u + i) % 13 ≠ x := by omega
  have h2 : (x + 13 - u + i) % 13 < 13 := Nat.mod_lt _ (by omega)
  generalize (x + 13 - u + i) % 13 = q at o h1 h2 ⊢
  have ks : ∀ c, c ≤ 4 → Z.1 (80 + 5 * q + c) = B.1 (80 + 5 * q + c) := fun c hc => s.1 _ (by omega) (by simp; omega) (by omega)
  exact o.fr (ks 0 (by omega)) (ks 1 (by omega)) (ks 2 (by omega)) (ks 3 (by omega)) (ks 4 (by omega)) (sm.1 47 (by decide) (by decide))
theorem yearYes (hS : RS B n nd) (hW : RW B n 60 37 0) (hK : RK B n N) (hC : RC B) (hH : RH B) (hU : RU B) (hP : RPx B n u x) (s : SmX [1, 3, 9, 15, 16, 22, 23, 24, 25, 37, 46, 47, 48, 50, 60, 61, 62, 63, 64] [9, 11, 12, 13, 14, 15, 16, 17, 22, 25] x B Z) (z1 : Z.1 1 1 = 0) (z9 : Z.1 36 9 = 0) (f1 : Z.1 9 1 = nI ((x + 1) % 13)) (f2 : Z.1 9 2 = nI (min 12 (u + 1))) (f3 : Z.1 36 25 = nI (min 12 (u + 1)))
    (hn : ∀ c, 1 ≤ c → c ≤ 4 → ∀ t, t < 8 → Z.1 (80 + 5 * x + c) t = B.1 (60 + c) t) (h4 : Z.1 (80 + 5 * x) 4 = B.1 60 4) (h5 : Z.1 (80 + 5 * x) 5 = B.1 60 5) (h47 : ∀ j, j < 26 * min 12 (u + 1) → Z.1 47 j = rmJ B u 37 j) (hW2 : RW Z n 60 37 0) (hO : RO Z) : RAll Z (N + 1) := by
  obtain ⟨⟨p1, p2, p3, p4, p5⟩, p6⟩ := hP
  have sm := s.toSm p2
  refine ⟨n, nd, hS.sm sm rfl rfl, hW2, RX.empty z1 z9, hO, ?_, (hK.sm sm rfl rfl).up, hC.sm sm (by rw [sm.1 0 (by decide) (by decide)]) (by rw [sm.1 0 (by decide) (by decide)]) rfl, hH.sm sm rfl rfl, hU.sm sm rfl rfl⟩
  exact RP.push hS.1.1 p1 p2 p6 hW f1 f2 f3 (fun k k1 k2 k3 => s.1 k (by omega) (by simp; omega) k3) hn h4 h5 h47
end YOP
/-- both tell whether all was done, and what the state can -/
theorem c_tailY {D : zM} {nd : Nat} {A G y L : Int32} {f : zM → Option (Int32 × zM)} {K : Int32 × zM → Prop} (hd : D.1 5 4 = nI nd) (h6 : nd ≤ 6) (hL : D.1 22 3 = L) (hA : bsA (fun t => decide (D.1 61 t = 6)) 8 = A) (hG : bsA (fun t => decide (D.1 8 t &&& (A ^^^ (-1)) = 0)) nd = G) (k : ∀ Z, TC D Z → CR Z [(if L ≤ y then 0 else 1), G.toInt64] → wpO (f Z) K) : wpO (zlet (fX3_begin D) fun M48 => zlet (if (M48.1 22 3) ≤ y then 0 else 1) fun (s0 : Int64) => (fX3_tell s0 M48).bind fun M57 => (fX10_heldBy 60 6 M57).bind fun r8 => (fX7_doableWith r8 M57).bind fun r9 => (fX3_tell r9.toInt64 M57).bind f) K := by
  refine vC_begin (fun N1 t1 r1 => wpO_lk ?_)
  rw [t1.1 22 (by omega), hL]
  refine vC_tell r1 (Nat.le_of_ble_eq_true rfl) (fun N2 t2 r2 => ?_)
  have t := t1.trans t2
  refine wpO_ek (pX10_heldBy rfl) ?_
  rw [t.1 61 (by omega), hA]
  refine wpO_ek (pX7_doableWith (nd := nd) (by rw [t.1 5 (by omega)]; exact hd) h6) ?_
  rw [t.1 8 (by omega), hG]
  exact vC_tell r2 (Nat.le_of_ble_eq_true rfl) (fun N3 t3 r3 => k N3 (t.trans t3) r3)
theorem rm48 {M R : zM} {u j : Nat} (h47 : R.1 47 = M.1 47) (h48 : ∀ j, j < 26 → R.1 48 j = M.1 37 j) (hj : j < 26 * min 12 (u + 1)) : rmJ R u 48 j = rmJ M u 37 j := by
  unfold rmJ
  by_cases c : j < 26 * min 11 u
  · rw [if_pos c, if_pos c, h47]
  · rw [if_neg c, if_neg c, h48 _ (by omega)]
theorem op_year {M : zM} {N : Nat} (h : RAll M N) : OpS fX11_year fX12_year M N := by
  have h0 := h
  obtain ⟨n, nd, hS, hW, hX, hO, hP, hK, hC, hH, hU⟩ := h
  obtain ⟨u, x, hP⟩ := hP.x
  have hx : x < 13 := hP.1.2.1
  have h8 := hS.1.1
  have h6 := hS.1.2
  obtain ⟨k, hk, x1, x9, xb, xt⟩ := hX.signs
  have hg := GT_of (most := 60) xb
  obtain ⟨r, Ca, ec, cl, hr⟩ := c_readFrom hk x1 xb
  have ok := pAc_ok hg 31 0 (Nat.zero_le _) (by omega)
  -- the reference begins, over any memory of the class
  have beg : ∀ M1 : zM, (∀ q, 36 ≤ q → q < 59 → M1.1 q = M.1 q) → ∃ R, fX12_beginText 60 (zSI M1 36 12 0) = R ∧ TSt (gT M (min k 60)) k 60 R 0 none ∧ (∀ q, q ≠ 36 → R.1 q = M1.1 q) ∧ (∀ j, j ∉ [9, 12, 13, 14, 15, 16, 17] → R.1 36 j = M.1 36 j) ∧ R.2.1 = M1.2.1 ∧ (∀ j, j ≠ 13 → R.2.2 j = M1.2.2 j) ∧ R.1 36 9 = 0 := by
    intro M1 a1
    obtain ⟨R, e, t0, t1, t2, t3, t4, t5⟩ := t_begin (M := M) (R0 := zSI M1 36 12 0) (most := 60) hk (by omega) (by rw [gSI, if_neg (by omega), a1 36 (by omega) (by omega)]; exact x9) (fun j hj => by rw [zSI_other _ _ _ (by decide), a1 41 (by omega) (by omega), xt j hj])
    refine ⟨R, e, t0, fun q hq => by rw [t1 q hq, zSI_other _ _ _ hq], fun j hj => ?_, t3, t4, t5⟩
    simp at hj
    rw [t2 j (by simp; omega), gSI, if_neg (by omega), a1 36 (by omega) (by omega)]
  have mL : ∀ R : zM, TSt (gT M (min k 60)) k 60 R 0 none → _ := fun R t => m_yearL hg (Nat.le_refl 60) 31 0 0 4000 R (Nat.zero_le _) (by omega) (by omega) (by omega) t
  generalize pAc (gT M (min k 60)) (min k 60) 31 0 = o at hr mL ok
  have kCa : ∀ q, q ≠ 1 → q ≠ 22 → q ≠ 23 → q ≠ 24 → q ≠ 25 → (zSI Ca 1 1 0).1 q = M.1 q := fun q a b c d e => by rw [zSI_other _ _ _ a, cl.2.1 q b c d e]
  -- refused at e
  have bad : ∀ e, e ≤ 80 → r = nI e → (∀ R : zM, TSt (gT M (min k 60)) k 60 R 0 none → ∃ y T0 T, fX12_year_L13 4000 0 R = some (y, T0) ∧ fX12_wasRight T0 = (0, T) ∧ T.1 36 17 = nI e ∧ FrY R T) → OpS fX11_year fX12_year M N := by
    intro e he er hR
    obtain ⟨R, eb, t0, t1, t2, t3, t4, t5⟩ := beg (zSI Ca 1 1 0) (fun q a b => kCa q (by omega) (by omega) (by omega) (by omega) (by omega))
    obtain ⟨y, T0, T, g1, g2, g3, g4⟩ := hR R t0
    have sm : Sm [1, 22, 23, 24, 25, 50] [9, 12, 13, 14, 15, 16, 17] M T := ⟨fun q a b => by simp at b; rw [g4.1 q a (by omega), t1 q a, kCa q (by omega) (by omega) (by omega) (by omega) (by omega)], fun j hj => by simp at hj; rw [g4.2.1 j (by omega) (by omega), t2 j (by simp; omega)], by rw [g4.2.2, t4 19 (by omega)]; show Ca.2.2 19 = _; rw [cl.1], by rw [g4.2.2, t4 20 (by omega)]; show Ca.2.2 20 = _; rw [cl.1]⟩
    refine ⟨-1 - nI e, zSI Ca 1 1 0, T, ?_, ?_, h0.text sm rfl rfl rfl rfl rfl rfl rfl rfl rfl rfl rfl rfl (by rw [sm.1 0 (by decide) (by decide)]) (by rw [sm.1 0 (by decide) (by decide)]) ?_ ?_ ?_⟩
    · unfold fX11_year
      rw [ec]
      simp only [Option.bind_some, zp, zlet]
      rw [er, if_neg (nI_nneg (by omega))]
      rfl
    · unfold fX12_year
      simp only [zlet, eb, g1, Option.bind_some, zp, g2, if_true, g3]
    · rw [g4.1 1 (by omega) (by omega), t1 1 (by omega), gSI, if_pos ⟨rfl, rfl⟩]
    · rw [g4.2.1 9 (by omega) (by omega)]; exact t5
    · exact hO.of (sm.1 3 (by decide) (by decide)) (sm.2.1 11 (by decide)) (by rw [g4.2.2, t3]; show Ca.2.1 = _; rw [cl.1])
  match o, hr, mL, ok with
  | .inl e, hr, mL, ok =>
    refine bad e (by have : e ≤ min k 60 := ok; omega) hr (fun R t => ?_)
    obtain ⟨y, T, p, g1, g2, g3⟩ := mL R t
    exact ⟨y, T, T, g1, t_right0 g2, g2.1.2.2.2, g3⟩
  | .inr (l, q), hr, mL, ok =>
    dsimp only at hr
    have okq : q = min k 60 := ok.1
    by_cases c : q = k
    · rw [if_pos c] at hr
      obtain ⟨er, eL, eA⟩ := hr
      have hl30 : l.length ≤ 30 := by have := ok.2.1; omega
      -- the reference reads, over any memory of the class
      have run : ∀ M1 : zM, (∀ q, 36 ≤ q → q < 59 → M1.1 q = M.1 q) → ∃ R0 R' R1, fX12_beginText 60 (zSI M1 36 12 0) = R0 ∧ fX12_year_L13 4000 0 R0 = some (nI l.length, R') ∧ fX12_wasRight R' = (1, R') ∧ fX12_lay 37 48 0 R' = some R1 ∧ (∀ q, q ≠ 36 → q ≠ 48 → q ≠ 50 → R1.1 q = M1.1 q) ∧ (∀ j, j ∉ [9, 12, 13, 14, 15, 16, 17] → R1.1 36 j = M.1 36 j) ∧ R1.1 36 9 = 0 ∧ R1.2.1 = M1.2.1 ∧ (∀ j, j ≠ 13 → R1.2.2 j = M1.2.2 j) ∧ (∀ j, j < 26 → R1.1 48 j = M.1 37 j) ∧ ∀ j a, l[j]? = some a → R1.1 50 (3 * j) = a.1 ∧ R1.1 50 (3 * j + 1) = a.2.1 ∧ (a.1 = 100 ∨ R1.1 50 (3 * j + 2) = a.2.2) := by
        intro M1 a1
        obtain ⟨R0, eb, t0, t1, t2, t3, t4, t5⟩ := beg M1 a1
        rcases mL R0 t0 with ⟨j0, R', i1, i2, i3, i4, i5⟩ | ⟨j0, -⟩
        · rw [Nat.zero_add] at i1
          obtain ⟨R1, e1, l1, l2, l3⟩ := p_lay (M := R') (x0 := 37) (x1 := 48) (o := 0) (l0 := 26) (l1 := 26) rfl rfl (by omega) (by omega) (by omega) (by omega)
          refine ⟨R0, R', R1, eb, i1, t_rightK i2 c, e1, fun q a b d => by rw [l2 q b, i3.1 q a d, t1 q a], fun j hj => ?_, ?_, by rw [l1, i3.2.2, t3], fun j hj => by rw [l1, i3.2.2, t4 j hj], fun j hj => ?_, fun j a hj => ?_⟩
          · simp at hj
            rw [l2 36 (by omega), i3.2.1 j (by omega) (by omega), t2 j (by simp; omega)]
          · rw [l2 36 (by omega), i3.2.1 9 (by omega) (by omega)]; exact t5
          · rw [l3, if_pos (by omega), Nat.sub_zero, i3.1 37 (by omega) (by omega), t1 37 (by omega), a1 37 (by omega) (by omega)]
          · rw [l2 50 (by omega)]
            have := i4 j a hj
            rw [Nat.zero_add] at this
            exact this
        · exact absurd j0 (by omega)
      -- the class notes
      obtain ⟨Na, en, hb⟩ := p_note (M := zSI Ca 1 1 0) (x := x) (by rw [kCa 9 (by omega) (by omega) (by omega) (by omega) (by omega)]; exact hP.1.2.2.1) hx
      have kN : ∀ k, k < 80 → k ≠ 1 → k ≠ 22 → k ≠ 23 → k ≠ 24 → k ≠ 25 → Na.1 k = M.1 k := fun k hk a b c d e => by rw [hb.2.1 k (by omega), kCa k a b c d e]
      have n2 : Na.2 = M.2 := by rw [hb.1]; exact cl.1
      have nA : Na.1 22 3 = nI l.length ∧ ∀ j a, l[j]? = some a → Na.1 23 j = a.1 ∧ Na.1 24 j = a.2.1 ∧ Na.1 25 j = a.2.2 := by
        rw [hb.2.1 22 (by omega), hb.2.1 23 (by omega), hb.2.1 24 (by omega), hb.2.1 25 (by omega), zSI_other _ _ _ (by decide), zSI_other _ _ _ (by decide), zSI_other _ _ _ (by decide), zSI_other _ _ _ (by decide)]
        exact ⟨eL, eA⟩
      obtain ⟨lv, v, S, hR⟩ := hU
      have hU : RU M := ⟨lv, v, S, hR⟩
      have hR : RV M lv v S := hR
      have zi : ∀ R1 : zM, (∀ q, 36 < q → q < 59 → q ≠ 48 → q ≠ 50 → R1.1 q = M.1 q) → (∀ j, j ∉ [9, 12, 13, 14, 15, 16, 17] → R1.1 36 j = M.1 36 j) → R1.2.2 19 = M.2.2 19 → R1.2.2 20 = M.2.2 20 → ZI n nd S lv v Na R1 := by
        intro R1 q1 q2 q3 q4
        have sm : Sm ([1, 22, 23, 24, 25, 48, 50] ++ slotsL) [9, 12, 13, 14, 15, 16, 17] M (mix Na R1) := by
          refine ⟨fun k k1 k2 => ?_, fun j hj => ?_, q3, q4⟩
          · by_cases cc : 36 ≤ k ∧ k < 59
            · simp at k2
              rw [mixR _ _ cc, q1 k (by omega) (by omega) (by omega) (by omega)]
            · have ns : ¬ (80 ≤ k ∧ k ≤ 144) := fun z => k2 (List.mem_append_right _ (mem_slots z.1 z.2))
              simp at k2
              rw [mixC _ _ (by omega), hb.2.1 k (by omega), kCa k (by omega) (by omega) (by omega) (by omega) (by omega)]
          · rw [mixR _ _ (by omega), q2 j hj]
        exact ⟨hS.sm sm rfl rfl, hW.sm sm rfl (by omega), hR.of (sm.1 13 (by decide) (by decide)) (sm.1 14 (by decide) (by decide)) (sm.1 44 (by decide) (by decide)) (sm.2.1 21 (by decide)), by rw [q3]; exact hC.2.2.2.2.1, by rw [kN 0 (by omega) (by omega) (by omega) (by omega) (by omega) (by omega), q2 4 (by decide)]; exact hC.2.2.1, by rw [kN 0 (by omega) (by omega) (by omega) (by omega) (by omega) (by omega), q2 3 (by decide)]; exact hC.2.1⟩
      obtain ⟨-, -, Rm, -, -, -, -, m1, m2, -, -, m5, -, m7⟩ := run M (fun _ _ _ => rfl)
      obtain ⟨d, D, Tm, -, d2, g1, -, g3, g4, g5, g6⟩ := A_acts hl30 ok.2.2 l.length 0 Na Rm 4000 4000 (by omega) (by omega) (by omega) (zi Rm (fun q a b e f => m1 q (by omega) e f) m2 (m5 19 (by omega)) (m5 20 (by omega))) ⟨nA.1, nA.2, m7⟩
      -- what the class has, behind the acts
      have kD : ∀ k, k < 60 ∨ (64 < k ∧ k < 80) → k ≠ 1 → k ≠ 15 → k ≠ 16 → k ≠ 22 → k ≠ 23 → k ≠ 24 → k ≠ 25 → D.1 k = M.1 k := fun k a b c e f g i j => by rw [g3.2 k (by omega) c e, kN k (by omega) b f g i j]
      have kr := keepN_rows D
      have kp := p_keepN (C := D) (x := x) (u := u) (by rw [kD 9 (by omega) (by omega) (by omega) (by omega) (by omega) (by omega) (by omega) (by omega)]; exact hP.1.2.2.1) (by rw [kD 9 (by omega) (by omega) (by omega) (by omega) (by omega) (by omega) (by omega) (by omega)]; exact hP.1.2.2.2.1) hx hP.1.1
      generalize hD1 : (if nI d ≤ 0 then D else fX2_keepNoted D) = D1
      have r1D : ∀ k, k ≠ 9 → D1.1 k = D.1 k := fun k hk => by
        subst hD1
        split
        · rfl
        · exact kr.2 k hk
      have r2D : D1.2 = D.2 := by
        subst hD1
        split <;> rfl
      have L22 : D1.1 22 3 = nI l.length := by rw [r1D 22 (by omega), g3.2 22 (by omega) (by omega) (by omega)]; exact nA.1
      have kD1 : ∀ k, k < 60 ∨ (64 < k ∧ k < 80) → k ≠ 1 → k ≠ 9 → k ≠ 15 → k ≠ 16 → k ≠ 22 → k ≠ 23 → k ≠ 24 → k ≠ 25 → D1.1 k = M.1 k := fun k a b z c e f g i j => by rw [r1D k z, kD k a b c e f g i j]
      obtain ⟨A, G, a1, a2, a3, a4⟩ := mix_had (nd := nd) h8 g5 (fun dd hd => by
        rw [kD 8 (by omega) (by omega) (by omega) (by omega) (by omega) (by omega) (by omega) (by omega), g4.2.2.1 40 (by omega) (by omega) (by omega), m1 40 (by omega) (by omega) (by omega)]; exact (hS.2.2.2.2 dd hd).1)
      have hc : wpO (fX11_year M) (fun q => q.1 = nI d ∧ TC D1 q.2 ∧ CR q.2 [(if nI l.length ≤ nI d then 0 else 1), G.toInt64]) := by
        unfold fX11_year
        refine wpO_ek ec (wpO_pk (wpO_lk ?_))
        rw [er, if_pos (show (-1 : Int32) < 0 by decide)]
        refine wpO_ek (v := Na) en (wpO_ek (v := (nI d, D)) g1 (wpO_pk (wpO_lk ?_)))
        rw [show (if nI d ≤ 0 then D else zlet (fX2_keepNoted D) fun M113 => M113) = D1 from hD1]
        exact c_tailY (nd := nd) (A := A) (by rw [kD1 5 (by omega) (by omega) (by omega) (by omega) (by omega) (by omega) (by omega) (by omega) (by omega)]; exact hS.2.1.2.2.1) h6 L22 (by rw [r1D 61 (by omega)]; exact a1) (by rw [r1D 8 (by omega)]; exact a2) (fun Z t r => wpO_ret ⟨rfl, t, r⟩)
      obtain ⟨⟨r1, M1⟩, e1, rfl, t1, cr⟩ := hc
      dsimp only at t1 cr
      have kM1 : ∀ k, k < 60 ∨ (64 < k ∧ k < 80) → k ≠ 1 → k ≠ 3 → k ≠ 9 → k ≠ 15 → k ≠ 16 → k ≠ 22 → k ≠ 23 → k ≠ 24 → k ≠ 25 → M1.1 k = M.1 k := fun k a b y z c e f g i j => by rw [t1.1 k y, kD1 k a b z c e f g i j]
      have s2 : M1.2.2 = M.2.2 := by rw [t1.2.2, r2D, g3.1, n2]
      -- the reference
      obtain ⟨R0, R', R1, f1, f2, f3, f4, q1, q2, q3, q4, q5, q6, q7⟩ := run M1 (fun q a b => kM1 q (by omega) (by omega) (by omega) (by omega) (by omega) (by omega) (by omega) (by omega) (by omega) (by omega))
      have q1' : ∀ q, 36 < q → q < 59 → q ≠ 48 → q ≠ 50 → R1.1 q = M.1 q := fun q a b e f => by rw [q1 q (by omega) e f, kM1 q (by omega) (by omega) (by omega) (by omega) (by omega) (by omega) (by omega) (by omega) (by omega) (by omega)]
      obtain ⟨d', D', T, -, d3, w1, w2, w3, w4, w5, w6⟩ := A_acts hl30 ok.2.2 l.length 0 Na R1 4000 4000 (by omega) (by omega) (by omega) (zi R1 q1' q2 (by rw [q5 19 (by omega), s2]) (by rw [q5 20 (by omega), s2])) ⟨nA.1, nA.2, q7⟩
      rw [g1] at w1
      obtain ⟨ed, eD⟩ := Prod.mk.inj (Option.some.inj w1)
      subst eD
      rw [← ed] at w2
      have hdd : d = d' := by
        exact (nI_eq (by omega) (by omega)).mp ed
      subst hdd
      have T48 : ∀ j, j < 26 → T.1 48 j = M.1 37 j := fun j hj => by rw [w4.2.2.1 48 (by omega) (by omega) (by omega)]; exact q6 j hj
      have T47 : T.1 47 = M.1 47 := by rw [w4.2.2.1 47 (by omega) (by omega) (by omega), q1' 47 (by omega) (by omega) (by omega) (by omega)]
      have T25 : T.1 36 25 = nI u := by rw [w4.2.2.2 25 (by decide), q2 25 (by decide)]; exact hP.1.2.2.2.2
      -- remembered, or not
      have rem : ∃ V, (if nI d ≤ 0 then some T else (fX12_remember 48 T).bind fun (M127 : zM) => some M127 : Option zM) = some V ∧ V.2 = T.2 ∧ (∀ k, k ≠ 36 → k ≠ 47 → V.1 k = T.1 k) ∧ (∀ j, j ≠ 25 → V.1 36 j = T.1 36 j) ∧ (nI d ≤ 0 → V = T) ∧ (¬ nI d ≤ 0 → V.1 36 25 = nI (min 12 (u + 1)) ∧ ∀ j, j < 26 * min 12 (u + 1) → V.1 47 j = rmJ M u 37 j) := by
        by_cases z : nI d ≤ 0
        · exact ⟨T, by rw [if_pos z], rfl, fun _ _ _ => rfl, fun _ _ => rfl, fun _ => rfl, fun y => absurd z y⟩
        · obtain ⟨V, em, b1, b2, b3, b4, b5⟩ := p_rem (x1 := 48) (M := T) rfl (by decide) T25 hP.1.1
          exact ⟨V, by rw [if_neg z, em]; rfl, b1, b2, b3, fun y => absurd y z, fun _ => ⟨b4, fun j hj => by rw [b5 j hj]; exact rm48 T47 T48 hj⟩⟩
      obtain ⟨V, eV, v1, v2, v3, v4, v5⟩ := rem
      have vT : ∀ j, j ∉ [9, 12, 13, 14, 15, 16, 17, 22, 25] → V.1 36 j = M.1 36 j := fun j hj => by simp at hj; rw [v3 j (by omega), w4.2.2.2 j (by simp; omega), q2 j (by simp; omega)]
      have hm : wpO (fX12_year M1) (fun q => q.1 = nI d ∧ TM V q.2 ∧ MR q.2 [(if nI l.length ≤ nI d then 0 else 1), G.toInt64]) := by
        unfold fX12_year
        refine wpO_lk (wpO_lk ?_)
        rw [f1]
        refine wpO_ek f2 (wpO_pk (wpO_lk ?_))
        rw [f3]
        refine wpO_fk (show ¬ (1 : Int32) = 0 by decide) (wpO_ek f4 (wpO_ek (v := (nI d, T)) w2 (wpO_pk (wpO_ek eV ?_))))
        have s37 : bsA (fun t => decide (V.1 37 t = 0 ∧ V.1 37 (8 + t) = 6)) n = A := by
          have := RW_held w5 h8 (q := 6) (by omega)
          rw [mixC _ _ (by omega), mixR _ _ (by omega)] at this
          simp only [Nat.zero_add] at this
          rw [← a1, v2 37 (by omega) (by omega)]
          exact this.symm
        have s40 : bsA (fun t => decide (V.1 40 t &&& (A ^^^ (-1)) = 0)) nd = G := by
          rw [v2 40 (by omega) (by omega), w4.2.2.1 40 (by omega) (by omega) (by omega), q1' 40 (by omega) (by omega) (by omega) (by omega), ← a4, g4.2.2.1 40 (by omega) (by omega) (by omega), m1 40 (by omega) (by omega) (by omega)]
        exact m_tail (n := n) (nd := nd) (A := A) (v := if nI l.length ≤ nI d then 0 else 1) (by rw [vT 1 (by decide)]; exact hS.2.1.2.1) h8 (by rw [vT 2 (by decide)]; exact hS.2.1.2.2.2) h6 s37 s40 (fun Z t r => wpO_ret ⟨rfl, t, r⟩)
      obtain ⟨⟨r2, Z⟩, e2, rfl, t2, mr⟩ := hm
      dsimp only at t2 mr
      have rZ : ∀ k, k ≠ 36 → k ≠ 37 → k ≠ 46 → k ≠ 47 → k ≠ 48 → k ≠ 50 → Z.1 k = M1.1 k := fun k a b c e f g => by rw [t2.1 k a, v2 k a e, w4.2.2.1 k a b c, q1 k a f g]
      have rD : ∀ k, k ≠ 36 → k ≠ 37 → k ≠ 46 → k ≠ 47 → k ≠ 48 → k ≠ 50 → k ≠ 3 → k ≠ 9 → Z.1 k = D.1 k := fun k a b c e f g i j => by rw [rZ k a b c e f g, t1.1 k i, r1D k j]
      have jZ : ∀ j, j ∉ [9, 11, 12, 13, 14, 15, 16, 17, 22, 25] → Z.1 36 j = M.1 36 j := fun j hj => by simp at hj; rw [t2.2.1 j (by omega), vT j (by simp; omega)]
      have z1 : Z.1 1 1 = 0 := by rw [rD 1 (by omega) (by omega) (by omega) (by omega) (by omega) (by omega) (by omega) (by omega), g3.2 1 (by omega) (by omega) (by omega), hb.2.1 1 (by omega), gSI, if_pos ⟨rfl, rfl⟩]
      have z9 : Z.1 36 9 = 0 := by rw [t2.2.1 9 (by omega), v3 9 (by omega), w4.2.2.2 9 (by decide)]; exact q3
      have z22 : ∀ j, j ≠ 13 → Z.2.2 j = M.2.2 j := fun j hj => by rw [t2.2.2.2, v1, w4.2.1 j hj, q5 j hj, s2]
      have hOZ : RO Z := ⟨_, Nat.le_of_ble_eq_true rfl, cr.fr (rZ 3 (by omega) (by omega) (by omega) (by omega) (by omega) (by omega)) (by rw [t2.2.2.1 4 (by omega), v1, w4.1, q4]), mr⟩
      refine ⟨_, M1, Z, e1, e2, ?_⟩
      by_cases z : nI d ≤ 0
      · -- nothing was done
        have d0 : d = 0 := by
          rcases Nat.eq_zero_or_pos d with y | y
          · exact y
          · exact absurd z (leF (b := 0) y (by omega))
        obtain ⟨hcn, hrn⟩ := w6 d0
        have hV := v4 z
        refine yearNo hS hW hK hC hH hU hP ⟨fun k k1 k2 k3 => ?_, fun j hj => ?_, z22 19 (by omega), z22 20 (by omega)⟩ z1 z9 hOZ
        · simp at k2
          by_cases cc : 36 ≤ k ∧ k < 59
          · rw [t2.1 k k1, hV, hrn.2.2.1 k k1 (by omega), q1' k (by omega) (by omega) (by omega) (by omega)]
          · by_cases c9 : k = 9
            · subst c9
              rw [rZ 9 (by omega) (by omega) (by omega) (by omega) (by omega) (by omega), t1.1 9 (by omega), ← hD1, if_pos z, kD 9 (by omega) (by omega) (by omega) (by omega) (by omega) (by omega) (by omega) (by omega)]
            · rw [rD k (by omega) (by omega) (by omega) (by omega) (by omega) (by omega) (by omega) c9, hcn.2 k (by omega) (by omega), hb.2.1 k k3, kCa k (by omega) (by omega) (by omega) (by omega) (by omega)]
        · simp at hj
          by_cases c25 : j = 25
          · subst c25
            rw [t2.2.1 25 (by omega), hV, T25, hP.1.2.2.2.2]
          · exact jZ j (by simp; omega)
      · have kb : ∀ c, c ≤ 4 → (zSI Ca 1 1 0).1 (60 + c) = M.1 (60 + c) := fun c hc => kCa _ (by omega) (by omega) (by omega) (by omega) (by omega)
        have slot : ∀ c, c ≤ 4 → Z.1 (80 + 5 * x + c) = Na.1 (80 + 5 * x + c) := fun c hc => by rw [rD _ (by omega) (by omega) (by omega) (by omega) (by omega) (by omega) (by omega) (by omega), g3.2 _ (by omega) (by omega) (by omega)]
        have D9 : D1 = fX2_keepNoted D := by rw [← hD1, if_neg z]
        refine yearYes hS hW hK hC hH hU hP ⟨fun k k1 k2 k3 => ?_, fun j hj => jZ j hj, z22 19 (by omega), z22 20 (by omega)⟩ z1 z9 ?_ ?_ ?_ (fun c c1 c4 t ht => ?_) ?_ ?_ (fun j hj => ?_) ?_ hOZ
        · simp at k2
          by_cases cc : 36 ≤ k ∧ k < 59
          · rw [t2.1 k k1, v2 k k1 (by omega), w4.2.2.1 k k1 (by omega) (by omega), q1' k (by omega) (by omega) (by omega) (by omega)]
          · rw [rD k (by omega) (by omega) (by omega) (by omega) (by omega) (by omega) (by omega) (by omega), g3.2 k (by omega) (by omega) (by omega), hb.2.1 k k3, kCa k (by omega) (by omega) (by omega) (by omega) (by omega)]
        · rw [rZ 9 (by omega) (by omega) (by omega) (by omega) (by omega) (by omega), t1.1 9 (by omega), D9, kp, gSI, if_neg (by omega), gSI, if_pos ⟨rfl, rfl⟩]
        · rw [rZ 9 (by omega) (by omega) (by omega) (by omega) (by omega) (by omega), t1.1 9 (by omega), D9, kp, gSI, if_pos ⟨rfl, rfl⟩]
        · rw [t2.2.1 25 (by omega)]; exact (v5 z).1
        · rw [slot c c4, hb.2.2.1 c c1 c4 t ht, kb c c4]
        · have := slot 0 (by omega)
          rw [Nat.add_zero] at this
          rw [this, hb.2.2.2.1]
          exact congrFun (kb 0 (by omega)) 4
        · have := slot 0 (by omega)
          rw [Nat.add_zero] at this
          rw [this, hb.2.2.2.2]
          exact congrFun (kb 0 (by omega)) 5
        · rw [t2.1 47 (by omega)]; exact (v5 z).2 j hj
        · have rr : ∀ k, 60 ≤ k → Z.1 k = (mix D T).1 k := fun k hk => by
            rw [mixC _ _ (by omega), rD k (by omega) (by omega) (by omega) (by omega) (by omega) (by omega) (by omega) (by omega)]
          exact w5.fr (rr _ (by omega)) (rr _ (by omega)) (rr _ (by omega)) (rr _ (by omega)) (rr _ (by omega)) (by rw [mixR _ _ (by omega), t2.1 37 (by omega), v2 37 (by omega) (by omega)])
    · rw [if_neg c] at hr
      refine bad q (by omega) hr (fun R t => ?_)
      rcases mL R t with ⟨j0, -⟩ | ⟨j0, y, T, p, g1, g2, g3⟩
      · exact absurd j0 c
      · exact ⟨y, T, T, g1, t_right0 g2, g2.1.2.2.2, g3⟩
