/-! law -/
theorem ref_rule {M : zM} {k : Nat} (hk : k ≤ 80) (x9 : M.1 36 9 = nI k) (xb : ∀ j, j < k → ∃ b : Nat, b < 256 ∧ M.1 2 j = nI b) (xt : ∀ j, j < k → M.1 41 j = (M.1 2 j).toInt8.toInt32) (M1 : zM) (a1 : ∀ q, 36 ≤ q → q < 59 → M1.1 q = M.1 q) (a2 : M1.2.2 = M.2.2) : ∃ b R, fX12_readRule (zSI M1 36 12 0) = some (b, R) ∧ (∀ q, q ≠ 36 → R.1 q = M1.1 q) ∧ (∀ j, j ∉ [9, 12, 13, 14, 15, 16, 17, 22] → R.1 36 j = M.1 36 j) ∧ R.2.1 = M1.2.1 ∧ (∀ j, j ≠ 13 → R.2.2 j = M.2.2 j) ∧ R.1 36 9 = 0 ∧ ((k = 0 ∧ ¬ b = 0) ∨ (0 < k ∧ rOK k (pAll (gT M (min k 40))) ∧ ¬ b = 0) ∨ (0 < k ∧ ¬ rOK k (pAll (gT M (min k 40))) ∧ b = 0 ∧ R.1 36 17 = nI (pAll (gT M (min k 40))).2.1)) := by
  have hg := GS_of xb
  obtain ⟨b, R, g1, g2, g3, g4⟩ := m_other (R0 := zSI M1 36 12 0) (g := gT M (min k 40)) hk (by rw [gSI, if_neg (by omega), a1 36 (by omega) (by omega)]; exact x9) hg (fun j hj => by
    rw [zSI_other _ _ _ (by decide), a1 41 (by omega) (by omega), xt j (by omega)]
    unfold gT; rw [if_pos hj])
  refine ⟨b, R, g1, fun q hq => by rw [g2.1 q hq, zSI_other _ _ _ hq], fun j hj => ?_, g2.2.2.1, fun j hj => by rw [g2.2.2.2 j hj]; show M1.2.2 j = _; rw [a2], g3, g4⟩
  simp at hj
  rw [g2.2.1 j (by simp; omega), gSI, if_neg (by omega), a1 36 (by omega) (by omega)]
theorem gO_congr {B N : zM} {n : Nat} {v : (Nat → Int32) → Int32} {told : Int32} (h37 : N.1 37 = B.1 37) (h38 : N.1 38 = B.1 38) (h39 : N.1 39 = B.1 39) (h4 : N.1 36 4 = B.1 36 4) : gO N n 37 v told = gO B n 37 v told := by
  have e : ∀ t, sE N 37 told t = sE B 37 told t := fun t => sE_congr h38 h39 h37 told t
  unfold gO
  rw [h37, h4]
  simp only [e]
theorem ct_not (p : Nat → Bool) (n : Nat) : ct (fun i => !p i) n = n - ct p n ∧ ct p n ≤ n := by
  have h := ct_split (fun _ => true) p n
  have h1 : ct (fun _ => true) n = n := by
    clear h
    induction n with
    | zero => rfl
    | succ n ih => show ct (fun _ => true) n + 1 = n + 1; rw [ih]
  have h2 : ct (fun i => true && p i) n = ct p n := ct_congr (fun i _ => by simp)
  have h3 : ct (fun i => true && !p i) n = ct (fun i => !p i) n := ct_congr (fun i _ => by simp)
  omega
theorem op_law {M : zM} {N : Nat} (h : RAll M N) : OpS fX11_law fX12_law M N := by
  obtain ⟨n, nd, h1, h2, h3, h4, h5, h6, h7, h8, h9⟩ := h
  obtain ⟨k, hk, x1, x9, xb, xt⟩ := h3.signs
  have hg := GS_of xb
  have hU := h9
  obtain ⟨l, v, S, hR⟩ := h9
  have hRV : RV M l v S := hR
  obtain ⟨w, C, e1, c1, c2, c3, c4⟩ := c_other hk x1 xb
  have m9 : ∀ M1 : zM, (∀ q, 36 ≤ q → q < 59 → M1.1 q = M.1 q) → (zSI M1 36 12 0).1 36 9 = nI k := fun M1 a1 => by rw [gSI, if_neg (by omega), a1 36 (by omega) (by omega)]; exact x9
  have yes : w = -1 → ∀ l' v', PartsAre C 17 l' → (∀ e, rn e l' [] = [v' e]) → k ≤ 40 → (∀ M1 : zM, (∀ q, 36 ≤ q → q < 59 → M1.1 q = M.1 q) → M1.2.2 = M.2.2 → ∀ b R, fX12_readRule (zSI M1 36 12 0) = some (b, R) → ¬ b = 0) → (∀ Z : zM, (∀ j, j < k → Z.1 45 j = M.1 41 j) → RefR Z 45 k v') → OpS fX11_law fX12_law M N := by
    intro ew l' v' hp hv hk40 hb href
    have seC : SE M C := ⟨c1 5 (by omega) (by omega) (by omega) (by omega), c1 6 (by omega) (by omega) (by omega) (by omega), c1 7 (by omega) (by omega) (by omega) (by omega), c1 60 (by omega) (by omega) (by omega) (by omega), c1 63 (by omega) (by omega) (by omega) (by omega), by rw [c1 0 (by omega) (by omega) (by omega) (by omega)]⟩
    obtain ⟨Z1, s1, f1, g1⟩ := p_survey (x1 := 17) (N := C) (Or.inr rfl) hv h1 h2 h7.2.2.1 hp seC
    have kZ1 : ∀ q, q ≠ 19 → q ≠ 20 → q ≠ 31 → q ≠ 32 → q ≠ 33 → Z1.1 q = C.1 q := fun q a b c d e => f1.1 q (by omega) (by omega) c d e
    have pZ1 : PartsAre Z1 13 l := ⟨hR.1.1, by rw [kZ1 13 (by omega) (by omega) (by omega) (by omega) (by omega), c1 13 (by omega) (by omega) (by omega) (by omega)]; exact hR.1.2.1, fun j x hj => by rw [kZ1 14 (by omega) (by omega) (by omega) (by omega) (by omega), c1 14 (by omega) (by omega) (by omega) (by omega)]; exact hR.1.2.2 j x hj⟩
    obtain ⟨Z2, s2, f2, g2⟩ := p_survey (x1 := 13) (N := Z1) (Or.inl rfl) hR.2.1 h1 h2 h7.2.2.1 pZ1 (seC.fr (Or.inr rfl) f1)
    -- how many get something
    generalize hP1 : ct (fun m => decide (gO M n 37 v' (nI m) = none)) 256 = P1
    generalize hP2 : ct (fun m => decide (gO M n 37 v (nI m) = none)) 256 = P2
    have q1 : ct (fun m => decide (Z1.1 31 m = -1)) 256 = P1 := by rw [← hP1]; exact ct_congr (fun m hm => by rw [g1 m hm, decide_eq_decide]; exact oC_m1 (gO_8 h1 _))
    have q2 : ct (fun m => decide (Z2.1 31 m = -1)) 256 = P2 := by rw [← hP2]; exact ct_congr (fun m hm => by rw [g2 m hm, decide_eq_decide]; exact oC_m1 (gO_8 h1 _))
    have p1 : P1 ≤ 256 := by rw [← hP1]; exact ct_le _ _
    have p2 : P2 ≤ 256 := by rw [← hP2]; exact ct_le _ _
    have hc : wpO (fX11_law M) (fun q => q.1 = nI (256 - P1) - nI (256 - P2) ∧ TC Z2 q.2 ∧ CR q.2 [(nI (256 - P1)).toInt64, (nI (256 - P2)).toInt64]) := by
      unfold fX11_law
      refine wpO_ek e1 (wpO_pk (wpO_tk (by rw [ew]; decide) (wpO_ek s1 (wpO_ek (p_howMany (-1) Z1) (wpO_lk (wpO_ek s2 (wpO_ek (p_howMany (-1) Z2) (wpO_lk ?_))))))))
      rw [q1, q2, show (256 : Int32) - nI P1 = nI (256 - P1) from pk_sub p1, show (256 : Int32) - nI P2 = nI (256 - P2) from pk_sub p2]
      exact vC_begin (fun N1 t1 r1 => vC_tell r1 (Nat.le_of_ble_eq_true rfl) (fun N2 t2 r2 => vC_tell r2 (Nat.le_of_ble_eq_true rfl) (fun N3 t3 r3 => wpO_ret ⟨rfl, (t1.trans t2).trans t3, r3⟩)))
    obtain ⟨⟨r, M1⟩, ef, er, tM, cM⟩ := hc
    dsimp only at er tM cM
    have kM1 : ∀ q, q ≠ 1 → q ≠ 3 → (q < 15 ∨ 21 < q) → (q < 31 ∨ 33 < q) → M1.1 q = M.1 q := fun q a b c d => by rw [tM.1 q b, f2.1 q (by omega) (by omega) (by omega) (by omega) (by omega), kZ1 q (by omega) (by omega) (by omega) (by omega) (by omega), c1 q a (by omega) (by omega) (by omega)]
    have r1 : ∀ q, 36 ≤ q → q < 59 → M1.1 q = M.1 q := fun q a b => kM1 q (by omega) (by omega) (by omega) (by omega)
    have r2 : M1.2.2 = M.2.2 := by rw [tM.2.2, f2.2, f1.2, c2]
    obtain ⟨b, R, d1, d2, d3, d4, d5, d6, -⟩ := ref_rule hk x9 xb xt M1 r1 r2
    have hb0 := hb M1 r1 r2 b R d1
    have kR : ∀ q, 36 < q → q < 59 → R.1 q = M.1 q := fun q a c => by rw [d2 q (by omega), r1 q (by omega) c]
    -- by the rule in force
    have smR : Sm [1, 3, 15, 16, 17, 18, 19, 20, 21, 31, 32, 33] [9, 12, 13, 14, 15, 16, 17, 22] M R := ⟨fun q a c => by simp at c; rw [d2 q a, kM1 q (by omega) (by omega) (by omega) (by omega)], fun j hj => d3 j hj, d5 19 (by omega), d5 20 (by omega)⟩
    have hSR := h1.sm smR rfl rfl
    have hAR : AR R 44 S v := by
      have := hRV.of (N := R) (smR.1 13 (by decide) (by decide)) (smR.1 14 (by decide) (by decide)) (smR.1 44 (by decide) (by decide)) (smR.2.1 21 (by decide))
      exact ⟨by rw [d5 19 (by omega)]; exact h7.2.2.2.2.1, Or.inl rfl, this.2.2.1, this.2.2.2⟩
    obtain ⟨T1, t1, ft1⟩ := m_getting hSR hAR (ME.refl R 37 44)
    have eg1 : ct (fun m => !decide (gO R n 37 v (nI m) = none)) 256 = 256 - P2 := by
      rw [(ct_not _ 256).1, ← hP2]
      exact congrArg (fun z => 256 - z) (ct_congr (fun m _ => by rw [gO_congr (kR 37 (by omega) (by omega)) (kR 38 (by omega) (by omega)) (kR 39 (by omega) (by omega)) (d3 4 (by decide))]))
    rw [eg1] at t1
    have a19 : T1.2.2 19 = some 44 := by rw [ft1.2.2.2 19 (by omega), d5 19 (by omega)]; exact h7.2.2.2.2.1
    have a20 : T1.2.2 20 = some 45 := by rw [ft1.2.2.2 20 (by omega), d5 20 (by omega)]; exact h7.2.2.2.2.2
    have a21 : T1.1 36 21 = M.1 36 21 := by rw [ft1.2.1 21 (by omega) (by omega), d3 21 (by decide)]
    generalize hT2 : zSI (zSD T1 19 (some 45)) 36 21 (nI k) = T2
    have k2 : ∀ q, q ≠ 36 → T2.1 q = T1.1 q := fun q hq => by subst hT2; rw [zSI_other _ _ _ hq]; rfl
    have k236 : ∀ j, j ≠ 21 → T2.1 36 j = T1.1 36 j := fun j hj => by subst hT2; rw [gSI, if_neg (by omega)]; rfl
    have v21 : T2.1 36 21 = nI k := by subst hT2; rw [gSI, if_pos ⟨rfl, rfl⟩]
    have v19 : T2.2.2 19 = some 45 := by subst hT2; show (zSD T1 19 (some 45)).2.2 19 = _; rw [gSD, if_pos rfl]
    have v22 : ∀ j, j ≠ 19 → T2.2.2 j = T1.2.2 j := fun j hj => by subst hT2; show (zSD T1 19 (some 45)).2.2 j = _; rw [gSD, if_neg hj]
    have vL : T2.2.1 = T1.2.1 := by subst hT2; rfl
    have T41 : ∀ j, T2.1 41 j = M.1 41 j := fun j => by rw [k2 41 (by omega), ft1.1 41 (by omega) (by omega), kR 41 (by omega) (by omega)]
    obtain ⟨T3, t3, l1, l2, l3⟩ := m_lawL (M := T2) (k := k) (a := 45) (x3 := 44) (x2 := nI (256 - P2)) (x4 := M.1 36 21) hk40 (Or.inr rfl) v19 (fun j hj => ⟨_, by rw [T41, xt j hj]⟩)
    have kT3 : ∀ q, q ≠ 36 → q ≠ 45 → q ≠ 46 → T3.1 q = R.1 q := fun q a c d => by rw [l2 q c, k2 q a, ft1.1 q a d]
    have kT36 : ∀ j, j ∉ [9, 12, 13, 14, 15, 16, 17, 21, 22] → T3.1 36 j = M.1 36 j := fun j hj => by
      simp at hj
      rw [l2 36 (by omega), k236 j (by omega), ft1.2.1 j (by omega) (by omega), d3 j (by simp; omega)]
    have smT : Sm [1, 3, 15, 16, 17, 18, 19, 20, 21, 31, 32, 33, 45, 46] [9, 12, 13, 14, 15, 16, 17, 21, 22] M (zSD T3 19 (some 44)) := by
      refine ⟨fun q a c => ?_, fun j hj => kT36 j hj, ?_, ?_⟩
      · simp at c
        show T3.1 q = _
        rw [kT3 q a (by omega) (by omega), d2 q a, kM1 q (by omega) (by omega) (by omega) (by omega)]
      · rw [gSD, if_pos rfl]; exact h7.2.2.2.2.1.symm
      · rw [gSD, if_neg (by omega), l1, v22 20 (by omega), a20]; exact h7.2.2.2.2.2.symm
    have hST3 : RS T3 n nd := by
      have := h1.sm smT rfl rfl
      exact this
    have hAT : AR T3 45 k v' := ⟨by rw [l1]; exact v19, Or.inr rfl, by rw [l2 36 (by omega)]; exact v21, href T3 (fun j hj => by rw [l3 j hj, T41])⟩
    obtain ⟨T4, t4, ft4⟩ := m_getting hST3 hAT (ME.refl T3 37 45)
    have eg4 : ct (fun m => !decide (gO T3 n 37 v' (nI m) = none)) 256 = 256 - P1 := by
      rw [(ct_not _ 256).1, ← hP1]
      refine congrArg (fun z => 256 - z) (ct_congr (fun m _ => ?_))
      rw [gO_congr (B := M) (by rw [kT3 37 (by omega) (by omega) (by omega), kR 37 (by omega) (by omega)]) (by rw [kT3 38 (by omega) (by omega) (by omega), kR 38 (by omega) (by omega)]) (by rw [kT3 39 (by omega) (by omega) (by omega), kR 39 (by omega) (by omega)]) (kT36 4 (by decide))]
    rw [eg4] at t4
    generalize hT5 : zSI (zSD T4 19 (some 44)) 36 21 (M.1 36 21) = T5
    have k5 : ∀ q, q ≠ 36 → T5.1 q = T4.1 q := fun q hq => by subst hT5; rw [zSI_other _ _ _ hq]; rfl
    have k536 : ∀ j, j ≠ 21 → T5.1 36 j = T4.1 36 j := fun j hj => by subst hT5; rw [gSI, if_neg (by omega)]; rfl
    have u21 : T5.1 36 21 = M.1 36 21 := by subst hT5; rw [gSI, if_pos ⟨rfl, rfl⟩]
    have u19 : T5.2.2 19 = some 44 := by subst hT5; show (zSD T4 19 (some 44)).2.2 19 = _; rw [gSD, if_pos rfl]
    have u20 : T5.2.2 20 = some 45 := by subst hT5; show (zSD T4 19 (some 44)).2.2 20 = _; rw [gSD, if_neg (by omega), ft4.2.2.2 20 (by omega), l1, v22 20 (by omega), a20]
    have uL : T5.2.1 = M1.2.1 := by subst hT5; show T4.2.1 = _; rw [ft4.2.2.1, l1, vL, ft1.2.2.1, d4]
    have hm : wpO (fX12_law M1) (fun q => q.1 = nI (256 - P1) - nI (256 - P2) ∧ TM T5 q.2 ∧ MR q.2 [(nI (256 - P1)).toInt64, (nI (256 - P2)).toInt64]) := by
      unfold fX12_law
      refine wpO_lk (wpO_lk (wpO_ek d1 (wpO_pk (wpO_fk hb0 (wpO_ek t1 (wpO_pk (wpO_ek a19 (wpO_lk (wpO_ek a20 (wpO_lk (wpO_lk ?_)))))))))))
      rw [m9 M1 r1, hT2, a21]
      refine wpO_ek t3 (wpO_ek t4 (wpO_pk (wpO_lk (wpO_lk ?_))))
      rw [hT5]
      exact vM_begin (fun N1 t1 r1 => vM_tell r1 (Nat.le_of_ble_eq_true rfl) (fun N2 t2 r2 => vM_tell r2 (Nat.le_of_ble_eq_true rfl) (fun N3 t3 r3 => wpO_ret ⟨rfl, (t1.trans t2).trans t3, r3⟩)))
    obtain ⟨⟨r', Z⟩, eg, er', tZ, mZ⟩ := hm
    dsimp only at er' tZ mZ
    refine ⟨r, M1, Z, ef, by rw [eg, er', er], ?_⟩
    have kZ : ∀ q, q ≠ 36 → q ≠ 45 → q ≠ 46 → Z.1 q = M1.1 q := fun q a c d => by rw [tZ.1 q a, k5 q a, ft4.1 q a d, kT3 q a c d, d2 q a]
    have sm : Sm [1, 3, 15, 16, 17, 18, 19, 20, 21, 31, 32, 33, 45, 46] [9, 11, 12, 13, 14, 15, 16, 17, 22] M Z := by
      refine ⟨fun q a c => ?_, fun j hj => ?_, ?_, ?_⟩
      · simp at c
        rw [kZ q a (by omega) (by omega), kM1 q (by omega) (by omega) (by omega) (by omega)]
      · simp at hj
        rw [tZ.2.1 j (by omega)]
        by_cases c : j = 21
        · subst c; exact u21
        · rw [k536 j c, ft4.2.1 j (by omega) (by omega), kT36 j (by simp; omega)]
      · rw [tZ.2.2.2, u19]; exact h7.2.2.2.2.1.symm
      · rw [tZ.2.2.2, u20]; exact h7.2.2.2.2.2.symm
    refine ⟨n, nd, h1.sm sm rfl rfl, h2.sm sm rfl (by omega), RX.empty ?_ ?_, ⟨_, Nat.le_of_ble_eq_true rfl, cM.fr (kZ 3 (by omega) (by omega) (by omega)) (by rw [tZ.2.2.1 4 (by omega), uL]), mZ⟩, h5.sm sm rfl rfl, (h6.sm sm rfl rfl).up, h7.sm sm (by rw [sm.1 0 (by decide) (by decide)]) (by rw [sm.1 0 (by decide) (by decide)]) rfl, h8.sm sm rfl rfl, hU.sm sm rfl rfl⟩
    · rw [kZ 1 (by omega) (by omega) (by omega), tM.1 1 (by omega), f2.1 1 (by omega) (by omega) (by omega) (by omega) (by omega), kZ1 1 (by omega) (by omega) (by omega) (by omega) (by omega)]; exact c3
    · rw [tZ.2.1 9 (by omega), k536 9 (by omega), ft4.2.1 9 (by omega) (by omega), l2 36 (by omega), k236 9 (by omega), ft1.2.1 9 (by omega) (by omega)]; exact d6
  rcases c4 with ⟨z0, ew, hp⟩ | ⟨z0, ok, ew, hp⟩ | ⟨z0, no, ew⟩
  · subst z0
    refine yes ew plainL pv hp plain_rn (by omega) (fun M1 a1 a2 b R e => ?_) (fun Z _ => Or.inl ⟨rfl, rfl⟩)
    obtain ⟨b', R', g1, -, -, -, -, -, g7⟩ := ref_rule hk x9 xb xt M1 a1 a2
    rw [e] at g1
    obtain ⟨rfl, -⟩ := Prod.mk.inj (Option.some.inj g1)
    rcases g7 with ⟨-, q⟩ | ⟨q, -⟩ | ⟨q, -⟩
    · exact q
    · omega
    · omega
  · have pk := pAll_ok hg
    have k40 : k ≤ 40 := by have := pk.2.1; have := ok.2; omega
    refine yes ew _ (pAll (gT M (min k 40))).2.2.2 hp (fun e => pk.2.2.2 ok.1 e []) k40 (fun M1 a1 a2 b R e => ?_) (fun Z hZ => Or.inr ⟨by omega, k40, gT M (min k 40), ?_, fun j hj => ?_, ok.1, rfl⟩)
    · obtain ⟨b', R', g1, -, -, -, -, -, g7⟩ := ref_rule hk x9 xb xt M1 a1 a2
      rw [e] at g1
      obtain ⟨rfl, -⟩ := Prod.mk.inj (Option.some.inj g1)
      rcases g7 with ⟨q, -⟩ | ⟨-, -, q⟩ | ⟨-, q, -⟩
      · omega
      · exact q
      · exact absurd ok q
    · have := hg
      rw [show min k 40 = k by omega] at this ⊢
      exact this
    · rw [hZ j hj, xt j hj]
      unfold gT
      rw [if_pos (by omega)]
  · have k1 : ∀ q, 36 ≤ q → q < 59 → C.1 q = M.1 q := fun q a b => c1 q (by omega) (by omega) (by omega) (by omega)
    obtain ⟨b, R, g1, g2, g3, g4, g5, g6, g7⟩ := ref_rule hk x9 xb xt C k1 (by rw [c2])
    have pk := pAll_ok hg
    have g8 : b = 0 ∧ R.1 36 17 = nI (pAll (gT M (min k 40))).2.1 := by
      rcases g7 with ⟨q, -⟩ | ⟨-, q, -⟩ | ⟨-, -, q⟩
      · omega
      · exact absurd q no
      · exact q
    generalize pAll (gT M (min k 40)) = r at ew g8 pk
    have p40 : r.2.1 < 2 ^ 31 := by have := pk.2.1; omega
    refine ⟨-10000 - nI r.2.1, C, R, ?_, ?_, ?_⟩
    · unfold fX11_law
      rw [e1]
      simp only [Option.bind_some, zp]
      rw [ew, if_neg (nI_nneg p40)]
    · unfold fX12_law
      simp only [zlet, g1, Option.bind_some, zp, if_pos g8.1, g8.2]
    · have sm : Sm [1, 17, 18, 21] [9, 12, 13, 14, 15, 16, 17, 22] M R := by
        refine ⟨fun q q1 q2 => ?_, fun j hj => g3 j hj, g5 19 (by omega), g5 20 (by omega)⟩
        simp at q2
        rw [g2 q q1, c1 q (by omega) (by omega) (by omega) (by omega)]
      exact ⟨n, nd, h1.sm sm rfl rfl, h2.sm sm rfl (by omega), RX.empty (by rw [g2 1 (by omega)]; exact c3) g6, h4.of (sm.1 3 (by decide) (by decide)) (sm.2.1 11 (by decide)) (by rw [g4, c2]), h5.sm sm rfl rfl, (h6.sm sm rfl rfl).up, h7.sm sm (by rw [sm.1 0 (by decide) (by decide)]) (by rw [sm.1 0 (by decide) (by decide)]) rfl, h8.sm sm rfl rfl, hU.sm sm rfl rfl⟩
