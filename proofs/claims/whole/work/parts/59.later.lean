/-! later -/
theorem FrC.of65 {M N : zM} (h : ∀ k, k < 65 ∨ 69 < k → N.1 k = M.1 k) (h2 : N.2 = M.2) : FrC M N := by
  refine ⟨fun k a b => h k (by omega), fun k _ => by rw [h2], by rw [h2], fun k hk => h k ?_, by rw [h 0 (by omega)], by rw [h 0 (by omega)]⟩
  have : ¬ (k = 65 ∨ k = 66 ∨ k = 67 ∨ k = 68 ∨ k = 69) := by rintro (rfl | rfl | rfl | rfl | rfl) <;> cases hk
  omega
theorem FrM.of49 {M N : zM} (h : ∀ k, k ≠ 49 → N.1 k = M.1 k) (h2 : N.2 = M.2) : FrM M N := by
  refine ⟨fun k a => h k (by omega), by rw [h2], fun k hk => h k (fun z => by rw [z] at hk; cases hk), fun j _ => by rw [h 36 (by omega)], by rw [h2], by rw [h2]⟩
def peo (H : Nat → Int32) : Int32 := bsA (fun p => !decide (H p = 0)) 6
theorem pX11_laterL {M : zM} : fX11_later_L37 M 4000 0 0 = some (peo (fun p => bsA (fun t => decide (M.1 66 t = nI p)) 8)) :=
  zfor (fun n (s : Int32 × Int32) => fX11_later_L37 M n s.1 s.2) (fun i => (bsA (fun p => !decide (bsA (fun t => decide (M.1 66 t = nI p)) 8 = 0)) i, nI i)) 6 _
    (fun n i hi => by
      simp only [fX11_later_L37, if_neg (show ¬ 6 ≤ nI i from leF (a := 6) hi (by omega)), pX10_heldBy (w := 65) (M := M) rfl, Option.bind_some, nI_1, zlet, bsA]
      by_cases hc : bsA (fun t => decide (M.1 66 t = nI i)) 8 = 0 <;> simp [hc])
    (fun n => by simp only [fX11_later_L37, if_pos (show 6 ≤ nI 6 from leT (a := 6) (Nat.le_refl 6) (by omega))]; rfl)
    6 0 4000 rfl (by omega)
theorem pX12_laterL {M : zM} {n : Nat} (hn : M.1 36 1 = nI n) (h8 : n ≤ 8) : fX12_later_L43 M 4000 0 0 = some (peo (fun p => bsA (fun t => decide (M.1 49 t = 0 ∧ M.1 49 (8 + t) = nI p)) n)) :=
  zfor (fun k (s : Int32 × Int32) => fX12_later_L43 M k s.1 s.2) (fun i => (bsA (fun p => !decide (bsA (fun t => decide (M.1 49 t = 0 ∧ M.1 49 (8 + t) = nI p)) n = 0)) i, nI i)) 6 _
    (fun k i hi => by
      simp only [fX12_later_L43, if_neg (show ¬ 6 ≤ nI i from leF (a := 6) hi (by omega)), pX12_hadBy (a := 49) (M := M) hn h8 rfl, Option.bind_some, nI_1, zlet, bsA]
      by_cases hc : bsA (fun t => decide (M.1 49 t = 0 ∧ M.1 49 (8 + t) = nI i)) n = 0
      · simp only [hc, if_true, decide_true, Bool.not_true, Bool.false_eq_true, if_false, ior_0]
      · simp only [hc, if_false, decide_false, Bool.not_false, if_true])
    (fun k => by simp only [fX12_later_L43, if_pos (show 6 ≤ nI 6 from leT (a := 6) (Nat.le_refl 6) (by omega))]; rfl)
    6 0 4000 rfl (by omega)
theorem mix_held {D S : zM} {n w a q : Nat} (h8 : n ≤ 8) (hw : 59 ≤ w) (ha : 36 < a ∧ a < 59) (hW : RW (mix D S) n w a 0) (hq : q ≤ 6) : bsA (fun t => decide (S.1 a t = 0 ∧ S.1 a (8 + t) = nI q)) n = bsA (fun t => decide (D.1 (w + 1) t = nI q)) 8 := by
  have := RW_held hW h8 (q := q) hq
  rw [mixC _ _ (by omega), mixR _ _ (by omega)] at this
  simp only [Nat.zero_add] at this
  exact this.symm
theorem mix_in {D S : zM} {n w a : Nat} (h8 : n ≤ 8) (hw : 59 ≤ w) (ha : 36 < a ∧ a < 59) (hW : RW (mix D S) n w a 0) : bsA (fun t => decide (S.1 a t = 2)) n = bsA (fun t => !decide (D.1 (w + 3) t < 0)) 8 := by
  have := RW_in hW h8
  rw [mixC _ _ (by omega), mixR _ _ (by omega)] at this
  simp only [Nat.zero_add] at this
  exact this.symm
theorem peo_congr {H K : Nat → Int32} (h : ∀ p, p < 6 → H p = K p) : peo H = peo K := bsA_congr (fun p hp => by rw [h p hp])
theorem op_later {M : zM} {n nd : Nat} (hS : RS M n nd) (hW : RW M n 60 37 0) (hC : RC M) (hO : RO M) (y : Int32) : OpQ (fX11_later y) (fX12_later y) M := by
  have h8 := hS.1.1
  rcases split_ix y (n := 100) (by omega) with hy | ⟨k, hk, rfl⟩
  · refine opR (r := -1) hO ?_ (fun N f => ?_)
    · unfold fX11_later
      exact wpO_tk (isSp0 hy) (wpO_ret ⟨rfl, FrC.refl M, rfl, rfl⟩)
    · unfold fX12_later
      exact wM_thrown (fun N0 f0 a1 a2 _ => wpO_tk (show fX12_in y 0 99 = 0 from in0 (n := 100) (by omega) hy) (wpO_ret ⟨rfl, f0, a1, by rw [a2]⟩))
  · have c1 : ¬ fX11_isSpan (nI k) = 0 := by rw [isSp1 hk]; decide
    have m1 : ¬ fX12_in (nI k) 0 99 = 0 := by rw [show fX12_in (nI k) 0 99 = 1 from in1 (n := 100) (by omega) hk]; decide
    obtain ⟨Ca, eb, hb⟩ := p_become (x0 := 65) (x1 := 60) (M := M) rfl rfl (by omega)
    obtain ⟨Rm, -, hl⟩ := p_lay (x0 := 37) (x1 := 49) (o := 0) (l0 := 26) (l1 := 26) (M := M) rfl rfl (by omega) (by omega) (by decide) (by omega)
    have hWm : ∀ R : zM, (∀ j, j < 26 → R.1 49 j = M.1 37 j) → RW (mix Ca R) n 65 49 0 := fun R hR => hW.copy h8 (fun c a b t ht => by rw [mixC _ _ (by omega), hb.2.2.1 c a b t ht]) (by rw [mixC _ _ (by omega), hb.2.2.2.1]) (by rw [mixC _ _ (by omega), hb.2.2.2.2]) (fun j hj => by rw [mixR _ _ (by omega), Nat.zero_add, hR j hj])
    obtain ⟨v, D, S0, v1, v2, v3, v4, v5, v6⟩ := A_days h8 (hWm Rm (fun j hj => by rw [hl.2.2, if_pos ⟨by omega, by omega⟩]; simp)) rfl (by omega) rfl (by omega) (show k < 1000 by omega) (by rw [hl.2.1 36 (by omega)]; exact hS.2.1.2.1)
    rw [hl.2.1 36 (by omega)] at v2
    have kD : ∀ k, k < 65 ∨ 69 < k → D.1 k = M.1 k := fun k hk => by rw [v5.2 k (by omega), hb.2.1 k (by omega)]
    have fD : FrC M D := FrC.of65 kD (by rw [v5.1, hb.1])
    have hτ : Ca.1 0 17 = M.1 36 3 := by rw [hb.2.1 0 (by omega)]; exact hC.2.1
    refine opQ (r := bsA (fun t => !decide (D.1 68 t < 0)) 8) (l := [(bsA (fun t => decide (D.1 66 t = nI 6)) 8).toInt64, (peo (fun p => bsA (fun t => decide (D.1 66 t = nI p)) 8)).toInt64]) (Nat.le_of_ble_eq_true rfl) ?_ (fun N f => ?_)
    · unfold fX11_later
      refine wpO_fk c1 (wpO_ek eb (wpO_ek (v := (nI v, D)) (by rw [hτ]; exact v2) (wpO_pk (wpO_ek pX11_laterL (vC_begin (fun N1 t1 r1 => ?_))))))
      refine wpO_ek (pX10_heldBy (w := 65) rfl) (vC_tell r1 (Nat.le_of_ble_eq_true rfl) (fun N2 t2 r2 => vC_tell r2 (Nat.le_of_ble_eq_true rfl) (fun N3 t3 r3 => ?_)))
      have t := (t1.trans t2).trans t3
      rw [t1.1 66 (by omega)] at r3
      refine wpO_ek (pX10_inside (w := 65) rfl) (wpO_ret ⟨by rw [t.1 68 (by omega)], ?_, r3⟩)
      refine fD.trans ⟨fun k a b => t.1 k (by omega), t.2.1, t.2.2, fun k hk => t.1 k (fun z => by rw [z] at hk; cases hk), by rw [t.1 0 (by omega)], by rw [t.1 0 (by omega)]⟩
    · unfold fX12_later
      refine wM_thrown (fun N0 f0 _ _ _ => wpO_fk m1 ?_)
      obtain ⟨R, eR, l1, l2, l3⟩ := p_lay (x0 := 37) (x1 := 49) (o := 0) (l0 := 26) (l1 := 26) (M := N0) rfl rfl (by omega) (by omega) (by decide) (by omega)
      have e := (E12.ofC f).fr f0
      refine wpO_ek (show fX12_lay 37 49 0 N0 = some R from eR) ?_
      have e36 : ∀ j, ps j = true → R.1 36 j = M.1 36 j := fun j hj => by rw [l2 36 (by omega)]; exact e.2.1 j hj
      obtain ⟨v', D', S, w1, w2, w3, w4, w5, w6⟩ := A_days h8 (hWm R (fun j hj => by rw [l3, if_pos ⟨by omega, by omega⟩, e.1 37 (by omega) (by omega) rfl]; simp)) rfl (by omega) rfl (by omega) (show k < 1000 by omega) (by rw [e36 1 rfl]; exact hS.2.1.2.1)
      rw [e36 3 rfl, v2] at w2
      obtain ⟨ev, eD⟩ := Prod.mk.inj (Option.some.inj w2)
      subst eD
      have sn : S.1 36 1 = nI n := by rw [w6.2 36 (by omega), e36 1 rfl]; exact hS.2.1.2.1
      refine wpO_ek w3 (wpO_pk (wpO_ek (pX12_laterL sn h8) (vM_begin (fun N1 t1 r1 => ?_))))
      refine wpO_ek (pX12_hadBy (a := 49) (n := n) (by rw [t1.2.1 1 (by omega)]; exact sn) h8 rfl) (vM_tell r1 (Nat.le_of_ble_eq_true rfl) (fun N2 t2 r2 => vM_tell r2 (Nat.le_of_ble_eq_true rfl) (fun N3 t3 r3 => ?_)))
      have t := (t1.trans t2).trans t3
      rw [t1.1 49 (by omega), show (6 : Int32) = nI 6 from rfl, mix_held h8 (by omega) (by omega) w4 (by omega), peo_congr (fun p hp => mix_held h8 (by omega) (by omega) w4 (show p ≤ 6 by omega))] at r3
      refine wpO_ek (pX12_those (a := 49) (n := n) (by rw [t.2.1 1 (by omega)]; exact sn) h8 rfl) (wpO_ret ⟨?_, ?_, r3⟩)
      · rw [t.1 49 (by omega)]
        exact mix_in h8 (by omega) (by omega) w4
      · refine f0.trans ((FrM.of49 (fun k hk => by rw [w6.2 k hk, l2 k hk]) (by rw [w6.1, l1])).trans ⟨fun k a => t.1 k (by omega), t.2.2.1 4 (by omega), fun k hk => t.1 k (fun z => by rw [z] at hk; cases hk), fun j hj => t.2.1 j (fun z => by rw [z] at hj; cases hj), by rw [t.2.2.2], by rw [t.2.2.2]⟩)
/-! sheet -/
def cvE (kind v : Int32) : Int32 := if kind = 0 then v.toInt8.toInt32 else if kind = 1 then v.toInt16.toInt32 else v
def enF (kind x2 f step : Int32) (t : Nat) : Int32 := if kind = 3 then 1 else if nI t < x2 then zmax 1 (zmin 9 (cvE kind (f + nI t * step))) else 1
theorem clamp19 (x : Int32) : ∃ v : Nat, 1 ≤ v ∧ v ≤ 9 ∧ zmax 1 (zmin 9 x) = nI v := by
  unfold zmax zmin
  by_cases c : x < 9
  · rw [if_pos c]
    by_cases c2 : 1 < x
    · rw [if_pos c2]
      rcases split_ix x (n := 10) (by omega) with q | ⟨t, ht, rfl⟩
      · exfalso
        rw [Int32.lt_iff_toInt_lt] at c c2
        have e1 : (9 : Int32).toInt = 9 := by decide
        have e2 : (1 : Int32).toInt = 1 := by decide
        rcases q with q | q
        · rw [Int32.lt_iff_toInt_lt] at q
          have e3 : (0 : Int32).toInt = 0 := by decide
          omega
        · rw [Int32.le_iff_toInt_le, nI_toInt (by omega)] at q
          omega
      · refine ⟨t, ?_, by omega, rfl⟩
        rcases Nat.eq_zero_or_pos t with z | z
        · subst z; exact absurd c2 (by decide)
        · exact z
    · rw [if_neg c2]; exact ⟨1, by omega, by omega, rfl⟩
  · rw [if_neg c]
    exact ⟨9, by omega, by omega, by decide⟩
theorem enF_ok (kind x2 f step : Int32) (t : Nat) : ∃ v : Nat, 1 ≤ v ∧ v ≤ 9 ∧ enF kind x2 f step t = nI v := by
  unfold enF
  split
  · exact ⟨1, by omega, by omega, rfl⟩
  · split
    · exact clamp19 _
    · exact ⟨1, by omega, by omega, rfl⟩
theorem step_add (f step : Int32) (t : Nat) : (f + nI t * step) + step = f + nI (t + 1) * step := by
  rw [nI_succ, Int32.add_mul, Int32.one_mul, Int32.add_assoc]
theorem c_sheet {M : zM} {n : Nat} {kind x2 f step x5 x6 : Int32} (hn : M.1 5 3 = nI n) (h8 : n ≤ 8) (hx6 : x6 = if kind = 3 then 0 else x2) : ∃ D, fX11_sheet_L59 kind f step x5 x6 4000 0 0 M = some (smA (enF kind x2 f step) n, D) ∧ D.2 = M.2 ∧ (∀ k, k ≠ 7 → D.1 k = M.1 k) ∧ ∀ t, t < n → D.1 7 t = enF kind x2 f step t := by
  refine zforI (fun k (s : Int32 × Int32 × zM) => fX11_sheet_L59 kind f step x5 x6 k s.1 s.2.1 s.2.2) (fun i s => s.1 = smA (enF kind x2 f step) i ∧ s.2.1 = nI i ∧ s.2.2.2 = M.2 ∧ (∀ k, k ≠ 7 → s.2.2.1 k = M.1 k) ∧ ∀ t, t < i → s.2.2.1 7 t = enF kind x2 f step t) n (fun r => ∃ D, r = some (smA (enF kind x2 f step) n, D) ∧ D.2 = M.2 ∧ (∀ k, k ≠ 7 → D.1 k = M.1 k) ∧ ∀ t, t < n → D.1 7 t = enF kind x2 f step t) ?_ ?_ n 0 4000 (0, 0, M) (by omega) (by omega) ⟨rfl, rfl, rfl, fun _ _ => rfl, fun t ht => absurd ht (by omega)⟩
  · rintro k i ⟨a, b, D⟩ hi ⟨q1, q2, q3, q4, q5⟩
    dsimp only at q1 q2 q3 q4 q5 ⊢
    subst q1 q2
    have e5 : D.1 5 3 = nI n := by rw [q4 5 (by omega)]; exact hn
    have ee : (if x6 ≤ nI i then 1 else fX11_sheetEntry kind (f + nI i * step)) = enF kind x2 f step i := by
      unfold enF
      subst hx6
      by_cases c : kind = 3
      · rw [if_pos c, if_pos c, if_pos (nI_pos' (show i < 2 ^ 31 by omega))]
      · rw [if_neg c, if_neg c]
        by_cases c2 : nI i < x2
        · rw [if_pos c2, if_neg ((ile_nlt x2 (nI i)).mpr c2)]
          rfl
        · rw [if_neg c2, if_pos ((ilt_nle (nI i) x2).mp c2)]
    refine ⟨(smA (enF kind x2 f step) (i + 1), nI (i + 1), zSI D 7 i (enF kind x2 f step i)), ⟨rfl, rfl, q3, fun k hk => by rw [zSI_other _ _ _ hk]; exact q4 k hk, fun t ht => ?_⟩, ?_⟩
    · show (zSI D 7 i (enF kind x2 f step i)).1 7 t = _
      rw [gSI]
      by_cases c : t = i
      · subst c; rw [if_pos ⟨rfl, rfl⟩]
      · rw [if_neg (fun z => c z.2)]; exact q5 t (by omega)
    · simp only [fX11_sheet_L59, e5, if_neg (leF hi (by omega)), zlet, ee, if_pos (zinT (show i < 8 by omega) (by omega)), nI_clamp (show i < 2 ^ 31 by omega), nI_1, smA]
  · rintro k ⟨a, b, D⟩ ⟨q1, q2, q3, q4, q5⟩
    dsimp only at q1 q2 q3 q4 q5 ⊢
    subst q1 q2
    have e5 : D.1 5 3 = nI n := by rw [q4 5 (by omega)]; exact hn
    exact ⟨D, by simp only [fX11_sheet_L59, e5, if_pos (leT (Nat.le_refl n) (by omega))], q3, q4, q5⟩
theorem m_sheet {M : zM} {n : Nat} {kind x2 f step : Int32} (hn : M.1 36 1 = nI n) (h8 : n ≤ 8) : ∃ D, fX12_sheet_L40 kind x2 step 4000 f 0 M = some D ∧ D.2 = M.2 ∧ (∀ k, k ≠ 39 → D.1 k = M.1 k) ∧ ∀ t, t < n → D.1 39 t = enF kind x2 f step t := by
  have f0 : f + nI 0 * step = f := by
    apply Int32.toBitVec_inj.mp
    rw [Int32.toBitVec_add, Int32.toBitVec_mul]
    simp [nI]
  refine zforI (fun k (s : Int32 × Int32 × zM) => fX12_sheet_L40 kind x2 step k s.1 s.2.1 s.2.2) (fun i s => s.1 = f + nI i * step ∧ s.2.1 = nI i ∧ s.2.2.2 = M.2 ∧ (∀ k, k ≠ 39 → s.2.2.1 k = M.1 k) ∧ ∀ t, t < i → s.2.2.1 39 t = enF kind x2 f step t) n (fun r => ∃ D, r = some D ∧ D.2 = M.2 ∧ (∀ k, k ≠ 39 → D.1 k = M.1 k) ∧ ∀ t, t < n → D.1 39 t = enF kind x2 f step t) ?_ ?_ n 0 4000 (f, 0, M) (by omega) (by omega) ⟨f0.symm, rfl, rfl, fun _ _ => rfl, fun t ht => absurd ht (by omega)⟩
  · rintro k i ⟨a, b, D⟩ hi ⟨q1, q2, q3, q4, q5⟩
    dsimp only at q1 q2 q3 q4 q5 ⊢
    subst q1 q2
    have e5 : D.1 36 1 = nI n := by rw [q4 36 (by omega)]; exact hn
    have ee : (if kind = 3 then 1 else if nI i < x2 then zmax 1 (zmin 9 (if kind = 0 then (f + nI i * step).toInt8.toInt32 else if kind = 1 then (f + nI i * step).toInt16.toInt32 else (f + nI i * step))) else 1) = enF kind x2 f step i := rfl
    refine ⟨(f + nI (i + 1) * step, nI (i + 1), zSI D 39 i (enF kind x2 f step i)), ⟨rfl, rfl, q3, fun k hk => by rw [zSI_other _ _ _ hk]; exact q4 k hk, fun t ht => ?_⟩, ?_⟩
    · show (zSI D 39 i (enF kind x2 f step i)).1 39 t = _
      rw [gSI]
      by_cases c : t = i
      · subst c; rw [if_pos ⟨rfl, rfl⟩]
      · rw [if_neg (fun z => c z.2)]; exact q5 t (by omega)
    · simp only [fX12_sheet_L40, e5, if_neg (leF hi (by omega)), zlet, ee, if_pos (zinT (show i < 8 by omega) (by omega)), nI_clamp (show i < 2 ^ 31 by omega), nI_1, step_add]
  · rintro k ⟨a, b, D⟩ ⟨q1, q2, q3, q4, q5⟩
    dsimp only at q1 q2 q3 q4 q5 ⊢
    subst q1 q2
    have e5 : D.1 36 1 = nI n := by rw [q4 36 (by omega)]; exact hn
    exact ⟨D, by simp only [fX12_sheet_L40, e5, if_pos (leT (Nat.le_refl n) (by omega))], q3, q4, q5⟩
theorem op_sheet {M : zM} {N : Nat} (h : RAll M N) (kind x2 f step : Int32) : OpS (fX11_sheet kind x2 f step) (fX12_sheet kind x2 f step) M N := by
  have h0 := h
  obtain ⟨n, nd, h1, h2, h3, h4, h5, h6, h7, h8, h9⟩ := h
  have hn8 := h1.1.1
  have in3 : fX12_in kind 0 3 = if kind < 0 then 0 else if 3 < kind then 0 else 1 := rfl
  by_cases c1 : kind < 0
  · refine opN (r := -1) h0 (by unfold fX11_sheet; rw [if_pos c1]) ?_
    simp only [fX12_sheet, zlet, in3, if_pos c1, if_true]
  · by_cases c2 : 3 < kind
    · refine opN (r := -1) h0 (by unfold fX11_sheet; rw [if_neg c1, if_pos c2]) ?_
      simp only [fX12_sheet, zlet, in3, if_neg c1, if_pos c2, if_true]
    · by_cases c3 : x2 ≤ 8
      · by_cases c4 : ¬ kind = 3 ∧ ¬ 0 ≤ x2
        · refine opN (r := -2) h0 ?_ ?_
          · unfold fX11_sheet
            simp only [if_neg c1, if_neg c2, if_pos c3, zlet, zj, if_neg c4.1, if_true, if_neg c4.2]
          · have : ¬ 3 ≤ kind := fun z => c4.1 (by
              apply Int32.toInt_inj.mp
              rw [Int32.le_iff_toInt_le] at z
              rw [Int32.lt_iff_toInt_lt] at c2
              omega)
            simp only [fX12_sheet, zlet, in3, if_neg c1, if_neg c2, show ¬ (1 : Int32) = 0 by decide, if_false, if_pos c3, zj, if_neg this, if_neg c4.2]
        · obtain ⟨D, e1, d1, d2, d3⟩ := c_sheet (M := M) (kind := kind) (x2 := x2) (f := f) (step := step) (x5 := if kind = 3 then 1 else 0) h1.2.1.1 hn8 rfl
          have hn2 : (zSI D 36 12 0).1 36 1 = nI n := by rw [gSI, if_neg (by omega), d2 36 (by omega)]; exact h1.2.1.2.1
          obtain ⟨T, e2, t1, t2, t3⟩ := m_sheet (M := zSI D 36 12 0) (kind := kind) (x2 := x2) (f := f) (step := step) hn2 hn8
          have g3 : (3 ≤ kind) ↔ kind = 3 := ⟨fun z => by
              apply Int32.toInt_inj.mp
              rw [Int32.le_iff_toInt_le] at z
              rw [Int32.lt_iff_toInt_lt] at c2
              omega, fun z => by rw [z]; decide⟩
          refine ⟨if kind = 3 then -3 else smA (enF kind x2 f step) n, D, T, ?_, ?_, ?_⟩
          · unfold fX11_sheet
            simp only [if_neg c1, if_neg c2, if_pos c3, zlet, zj]
            by_cases c : kind = 3
            · simp only [c, if_true, show ¬ (1 : Int32) = 0 by decide, if_false] at e1 ⊢
              rw [e1]; rfl
            · have p : 0 ≤ x2 := Classical.byContradiction (fun z => c4 ⟨c, z⟩)
              simp only [c, if_true, if_false, if_pos p] at e1 ⊢
              rw [e1]; rfl
          · have body : (fX12_sheet_L40 kind x2 step 4000 f 0 (zSI D 36 12 0)).bind (fun (M_120 : zM) => if kind = 3 then some ((-3), M_120) else (fX12_worthOf (fX12_all M_120) M_120).bind fun (r7 : Int32) => some (r7, M_120)) = some (if kind = 3 then -3 else smA (enF kind x2 f step) n, T) := by
              rw [e2]
              simp only [Option.bind_some]
              by_cases c : kind = 3
              · rw [if_pos c, if_pos c]
              · rw [if_neg c, if_neg c]
                have tn : T.1 36 1 = nI n := by rw [t2 36 (by omega)]; exact hn2
                have ea : fX12_all T = nI (2 ^ n - 1) := by unfold fX12_all; rw [tn]; exact allN hn8
                rw [ea, pX12_worthOf (n := n) tn hn8]
                simp only [Option.bind_some]
                refine congrArg (fun z => some (z, T)) (smA_congr (fun t ht => ?_))
                rw [hasB_bt _ (by omega), bt_nI _ (by omega), tb_all, if_pos (decide_eq_true ht)]
                exact t3 t ht
            simp only [fX12_sheet, zlet, in3, if_neg c1, if_neg c2, show ¬ (1 : Int32) = 0 by decide, if_false, if_pos c3, zj, g3]
            by_cases c : kind = 3
            · rw [if_pos c]; exact body
            · have p : 0 ≤ x2 := Classical.byContradiction (fun z => c4 ⟨c, z⟩)
              rw [if_neg c, if_pos p]; exact body
          · have sm : Sm [7, 39] [12] M T := ⟨fun k k1 k2 => by
                simp at k2
                rw [t2 k (by omega), zSI_other _ _ _ k1, d2 k (by omega)], fun j hj => by
                simp at hj
                rw [t2 36 (by omega), gSI, if_neg (by omega), d2 36 (by omega)], by rw [t1]; show D.2.2 19 = _; rw [d1], by rw [t1]; show D.2.2 20 = _; rw [d1]⟩
            have r2 : T.2 = M.2 := by rw [t1]; show D.2 = _; rw [d1]
            refine ⟨n, nd, ?_, h2.sm sm rfl (by omega), h3.sm sm rfl rfl, h4.of (sm.1 3 (by decide) (by decide)) (sm.2.1 11 (by decide)) (by rw [r2]), h5.sm sm rfl rfl, (h6.sm sm rfl rfl).up, h7.sm sm (by rw [sm.1 0 (by decide) (by decide)]) (by rw [sm.1 0 (by decide) (by decide)]) rfl, h8.sm sm rfl rfl, h9.sm sm rfl rfl⟩
            obtain ⟨s1, s2, s3, s4, s5⟩ := h1
            refine ⟨s1, ?_, ?_, ?_, ?_⟩
            · rw [sm.1 5 (by decide) (by decide), sm.2.1 1 (by decide), sm.2.1 2 (by decide)]; exact s2
            · rw [sm.1 6 (by decide) (by decide), sm.1 38 (by decide) (by decide)]; exact s3
            · intro t ht
              have q7 : T.1 7 t = enF kind x2 f step t := by rw [t2 7 (by omega), zSI_other _ _ _ (by omega), d3 t ht]
              rw [q7, t3 t ht]
              exact ⟨rfl, enF_ok _ _ _ _ _⟩
            · rw [sm.1 8 (by decide) (by decide), sm.1 40 (by decide) (by decide)]; exact s5
      · refine opN (r := -1) h0 (by unfold fX11_sheet; rw [if_neg c1, if_neg c2, if_neg c3]) ?_
        simp only [fX12_sheet, zlet, in3, if_neg c1, if_neg c2, show ¬ (1 : Int32) = 0 by decide, if_false, if_neg c3]
