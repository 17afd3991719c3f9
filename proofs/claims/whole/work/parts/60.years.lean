/-! years drawn by a seed -/
def YC (C D : zM) : Prop := D.2 = C.2 ∧ (∀ k, k ≠ 0 → k ≠ 15 → k ≠ 16 → (k < 65 ∨ 69 < k) → D.1 k = C.1 k) ∧ ∀ j, j ≠ 16 → D.1 0 j = C.1 0 j
def YR (R T : zM) : Prop := T.2.1 = R.2.1 ∧ (∀ j, j ≠ 13 → T.2.2 j = R.2.2 j) ∧ (∀ k, k ≠ 36 → k ≠ 46 → k ≠ 49 → T.1 k = R.1 k) ∧ ∀ j, j ∉ [12, 13, 14, 15, 16, 17, 22, 36] → T.1 36 j = R.1 36 j
theorem YC.refl (C : zM) : YC C C := ⟨rfl, fun _ _ _ _ _ => rfl, fun _ _ => rfl⟩
theorem YR.refl (R : zM) : YR R R := ⟨rfl, fun _ _ => rfl, fun _ _ _ _ => rfl, fun _ _ => rfl⟩
theorem YC.trans {A B C : zM} (h : YC A B) (g : YC B C) : YC A C := ⟨g.1.trans h.1, fun k a b c d => (g.2.1 k a b c d).trans (h.2.1 k a b c d), fun j hj => (g.2.2 j hj).trans (h.2.2 j hj)⟩
theorem YR.trans {A B C : zM} (h : YR A B) (g : YR B C) : YR A C := ⟨g.1.trans h.1, fun j hj => (g.2.1 j hj).trans (h.2.1 j hj), fun k a b c => (g.2.2.1 k a b c).trans (h.2.2.1 k a b c), fun j hj => (g.2.2.2 j hj).trans (h.2.2.2 j hj)⟩
theorem CY.YC {C D : zM} (h : CY 65 C D) : YC C D := ⟨h.1, fun k _ b c d => h.2 k (by omega) b c, fun j _ => by rw [h.2 0 (by omega) (by omega) (by omega)]⟩
theorem CN.YC {C D : zM} (h : CN C D) : YC C D := ⟨h.1, fun k _ b c _ => h.2 k b c, fun j _ => by rw [h.2 0 (by omega) (by omega)]⟩
theorem RY.YR {R T : zM} (h : RY 49 R T) : YR R T := ⟨h.1, h.2.1, fun k a b c => h.2.2.1 k a c b, fun j hj => h.2.2.2 j (by simp at hj ⊢; omega)⟩
theorem FrQ.YR {R T : zM} (f : FrQ R T) : YR R T := ⟨f.2.2.1, f.2.2.2, fun k a b _ => f.1 k a b, fun j hj => by simp at hj; exact f.2.1 j (by omega) (by omega)⟩
theorem row49.YR {R T : zM} (h2 : T.2 = R.2) (h : ∀ k, k ≠ 49 → T.1 k = R.1 k) : YR R T := ⟨by rw [h2], fun _ _ => by rw [h2], fun k _ _ c => h k c, fun j _ => by rw [h 36 (by omega)]⟩
theorem RV.of {M N : zM} {l : List Int32} {v : (Nat → Int32) → Int32} {S : Nat} (h : RV M l v S) (h13 : N.1 13 = M.1 13) (h14 : N.1 14 = M.1 14) (h44 : N.1 44 = M.1 44) (h21 : N.1 36 21 = M.1 36 21) : RV N l v S := by
  obtain ⟨⟨a1, a2, a3⟩, b, c, d⟩ := h
  refine ⟨⟨a1, by rw [h13]; exact a2, fun j x hj => by rw [h14]; exact a3 j x hj⟩, b, by rw [h21]; exact c, ?_⟩
  rcases d with d | ⟨d1, d2, g, d3, d4, d5⟩
  · exact Or.inl d
  · exact Or.inr ⟨d1, d2, g, d3, fun j hj => by rw [h44]; exact d4 j hj, d5⟩
theorem zp_mk {α β γ : Type} (a : α) (b : β) (f : α → β → γ) : zp (a, b) f = f a b := rfl
theorem n0e : nI 0 = 0 := by decide
theorem n1e : nI 1 = 1 := by decide
theorem n2e : nI 2 = 2 := by decide
theorem n3e : nI 3 = 3 := by decide
section YRS
variable {n nd S : Nat} {l : List Int32} {v : (Nat → Int32) → Int32} {C R : zM}
def YI (n nd S : Nat) (l : List Int32) (v : (Nat → Int32) → Int32) (C R : zM) : Prop := RS (mix C R) n nd ∧ RW (mix C R) n 65 49 0 ∧ RV (mix C R) l v S ∧ R.2.2 19 = some 44 ∧ C.1 0 18 = R.1 36 4 ∧ C.1 0 17 = R.1 36 3 ∧ C.1 0 16 = R.1 36 36
theorem YI.step {D T : zM} (h : YI n nd S l v C R) (hc : YC C D) (hr : YR R T) (hW : RW (mix D T) n 65 49 0) (hs : D.1 0 16 = T.1 36 36) : YI n nd S l v D T := by
  obtain ⟨h1, h2, h3, h4, h5, h6, h7⟩ := h
  have sm : Sm [0, 15, 16, 46, 49, 65, 66, 67, 68, 69] [12, 13, 14, 15, 16, 17, 22, 36] (mix C R) (mix D T) := by
    refine ⟨fun k k1 k2 => ?_, fun j hj => ?_, ?_, ?_⟩
    · simp at k2
      by_cases c : 36 ≤ k ∧ k < 59
      · rw [mixR _ _ c, mixR _ _ c, hr.2.2.1 k (by omega) (by omega) (by omega)]
      · rw [mixC _ _ (by omega), mixC _ _ (by omega), hc.2.1 k (by omega) (by omega) (by omega) (by omega)]
    · rw [mixR _ _ (by omega), mixR _ _ (by omega), hr.2.2.2 j hj]
    · exact hr.2.1 19 (by omega)
    · exact hr.2.1 20 (by omega)
  exact ⟨h1.sm sm rfl rfl, hW, h3.of (sm.1 13 (by decide) (by decide)) (sm.1 14 (by decide) (by decide)) (sm.1 44 (by decide) (by decide)) (sm.2.1 21 (by decide)), (hr.2.1 19 (by omega)).trans h4, by rw [hc.2.2 18 (by omega), hr.2.2.2 4 (by decide)]; exact h5, by rw [hc.2.2 17 (by omega), hr.2.2.2 3 (by decide)]; exact h6, hs⟩
theorem YI.nC (h : YI n nd S l v C R) : C.1 5 3 = nI n := by
  have := h.1.2.1.1
  rw [mixC _ _ (by omega)] at this
  exact this
theorem YI.nR (h : YI n nd S l v C R) : R.1 36 1 = nI n := by
  have := h.1.2.1.2.1
  rw [mixR _ _ (by omega)] at this
  exact this
/-! draws -/
def drX (x : Int32) : Int32 := x * 1103515245 + 12345
def drQ (x : Int32) : Nat := (drX x).toBitVec.toNat / 65536
theorem drQ_lt (x : Int32) : drQ x < 65536 := by
  have := (drX x).toBitVec.isLt
  unfold drQ
  omega
theorem ushr16 (x : Int32) : zushr x 16 = nI (x.toBitVec.toNat / 65536) := by
  apply Int32.toBitVec_inj.mp
  apply BitVec.eq_of_toNat_eq
  have := x.toBitVec.isLt
  rw [show (zushr x 16).toBitVec.toNat = x.toBitVec.toNat / 2 ^ 16 from pk_ushr x 16 16 (by decide), pk_tn (by omega)]
theorem dr_rem (x : Int32) {m : Nat} (h0 : 0 < m) (hm : m < 1000) : zrem (zushr (drX x) 16) (nI m) = nI (drQ x % m) := by
  rw [ushr16]
  have := drQ_lt x
  exact pk_rem (a := drQ x) (d := m) (by omega) h0 (by omega)
theorem Y_draw (h : YI n nd S l v C R) {m : Nat} (h0 : 0 < m) (hm : m < 1000) : ∃ q D T, q < m ∧ fX11_draw (nI m) C = some (nI q, D) ∧ fX12_draw (nI m) R = some (nI q, T) ∧ YI n nd S l v D T ∧ YC C D ∧ YR R T := by
  refine ⟨drQ (C.1 0 16) % m, zSI C 0 16 (drX (C.1 0 16)), zSI R 36 36 (drX (R.1 36 36)), Nat.mod_lt _ h0, ?_, ?_, ?_⟩
  · have e : (zSI C 0 16 (C.1 0 16 * 1103515245 + 12345)).1 0 16 = drX (C.1 0 16) := by rw [gSI, if_pos ⟨rfl, rfl⟩]; rfl
    simp only [fX11_draw, zlet, e, if_neg (show ¬ nI m ≤ 0 from leF (b := 0) h0 (by omega)), if_pos (nI_ne0 h0 (by omega)), dr_rem _ h0 hm]
    rfl
  · have e : (zSI R 36 36 (R.1 36 36 * 1103515245 + 12345)).1 36 36 = drX (R.1 36 36) := by rw [gSI, if_pos ⟨rfl, rfl⟩]; rfl
    simp only [fX12_draw, zlet, e, if_pos (nI_ne0 h0 (by omega)), dr_rem _ h0 hm, h.2.2.2.2.2.2]
    rfl
  · have hc : YC C (zSI C 0 16 (drX (C.1 0 16))) := ⟨rfl, fun k a _ _ _ => zSI_other _ _ _ a, fun j hj => by rw [gSI, if_neg (by omega)]⟩
    have hr : YR R (zSI R 36 36 (drX (R.1 36 36))) := ⟨rfl, fun _ _ => rfl, fun k a _ _ => zSI_other _ _ _ a, fun j hj => by simp at hj; rw [gSI, if_neg (by omega)]⟩
    refine ⟨h.step hc hr ?_ ?_, hc, hr⟩
    · refine h.2.1.fr ?_ ?_ ?_ ?_ ?_ ?_
      · rw [mixC _ _ (by omega), mixC _ _ (by omega), zSI_other _ _ _ (by omega)]
      · rw [mixC _ _ (by omega), mixC _ _ (by omega), zSI_other _ _ _ (by omega)]
      · rw [mixC _ _ (by omega), mixC _ _ (by omega), zSI_other _ _ _ (by omega)]
      · rw [mixC _ _ (by omega), mixC _ _ (by omega), zSI_other _ _ _ (by omega)]
      · rw [mixC _ _ (by omega), mixC _ _ (by omega), zSI_other _ _ _ (by omega)]
      · rw [mixR _ _ (by omega), mixR _ _ (by omega), zSI_other _ _ _ (by omega)]
    · rw [gSI, if_pos ⟨rfl, rfl⟩, gSI, if_pos ⟨rfl, rfl⟩, h.2.2.2.2.2.2]
theorem YI.agC (h : YI n nd S l v C R) : AgC (mix C R) C 65 n := ⟨h.nC, fun c _ => (mixC _ _ (by omega)).symm⟩
theorem YI.agR (h : YI n nd S l v C R) : AgR (mix C R) R 49 n := ⟨h.nR, (mixR _ _ (by omega)).symm⟩
theorem p_day1 (w : Nat) (τ : Int32) (C : zM) (hw : zSH w = .inl 10) : ∃ b, fX10_passDays w 1 τ C = some (b, dayC C w τ) := by
  have e : fX10_passDay w τ C = some (bsA (wDue C w τ) 8, dayC C w τ) := pX10_passDay hw
  refine ⟨0 ||| bsA (wDue C w τ) 8, ?_⟩
  unfold fX10_passDays
  have key : ∀ m, fX10_passDays_L5 w 1 τ (m + 1 + 1) 0 0 C = some (0 ||| bsA (wDue C w τ) 8, dayC C w τ) := fun m => by
    simp only [fX10_passDays_L5, if_neg (show ¬ (1 : Int32) ≤ 0 by decide), hw, if_true, e, Option.bind_some, zp, zlet, if_pos (show (1 : Int32) ≤ 0 + 1 by decide)]
  rw [key 3998]
  simp only [Option.bind_some, zp]
/-- one act that is drawn, on both sides -/
def YS (n nd S : Nat) (l : List Int32) (v : (Nat → Int32) → Int32) (C R : zM) : Prop := ∃ (b : Bool) (D T : zM), fX11_drawnActGets C = some (bI b, D) ∧ (∀ k x2 x3 x4, ¬ x2 ≤ x4 → fX12_years_L39 x2 (k + 1) x3 x4 R = fX12_years_L39 x2 k (if b = true then x3 + 1 else x3) (x4 + 1) T) ∧ YI n nd S l v D T ∧ YC C D ∧ YR R T
theorem Y_day {C1 R1 : zM} (h8 : n ≤ 8) {d : Int32} (h0 : d = 0) (h1 : ¬ d = 1) (h2 : ¬ d = 2) (h3 : ¬ d = 3) (ec1' : fX11_draw 4 C = some (d, C1)) (er1' : fX12_draw 4 R = some (d, R1)) (y1 : YI n nd S l v C1 R1) (c1 : YC C C1) (r1 : YR R R1) : YS n nd S l v C R := by
  obtain ⟨bb, ed⟩ := p_day1 65 (C1.1 0 17) C1 rfl
  obtain ⟨d1, d2⟩ := RW.day h8 y1.2.1 (by omega) (by omega) (C1.1 0 17)
  have eg := pX12_goDay (a := 49) (n := n) (M := R1) rfl (by omega) y1.nR h8
  rw [← y1.2.2.2.2.2.1] at eg
  have eg' : fX12_goDay 49 R1 = some (bsA (mDue R1 49 (C1.1 0 17)) n, dayR R1 49 (C1.1 0 17) n) := eg
  have hcD : YC C1 (dayC C1 65 (C1.1 0 17)) := (dayC_ch C1 65 (C1.1 0 17)).CY.YC
  obtain ⟨dr1, dr2⟩ := dayR_ch R1 49 (C1.1 0 17) n
  have hrD : YR R1 (dayR R1 49 (C1.1 0 17) n) := row49.YR dr1 dr2
  refine ⟨false, dayC C1 65 (C1.1 0 17), dayR R1 49 (C1.1 0 17) n, ?_, fun k x2 x3 x4 hx => ?_, y1.step hcD hrD d2 ?_, c1.trans hcD, r1.trans hrD⟩
  · unfold fX11_drawnActGets
    rw [ec1']
    simp only [Option.bind_some, zp]
    rw [if_pos h0, ed]
    rfl
  · simp only [fX12_years_L39, if_neg hx, er1', Option.bind_some, zp, if_pos h0, eg', if_neg h1, if_neg h2, if_neg h3, Bool.false_eq_true, if_false]
  · rw [(dayC_ch C1 65 (C1.1 0 17)).2 0 (by omega), dr2 36 (by omega)]
    exact y1.2.2.2.2.2.2
theorem Y_loss {C1 R1 : zM} (h8 : n ≤ 8) {d : Int32} (h0 : ¬ d = 0) (h1 : d = 1) (h2 : ¬ d = 2) (h3 : ¬ d = 3) (ec1' : fX11_draw 4 C = some (d, C1)) (er1' : fX12_draw 4 R = some (d, R1)) (y1 : YI n nd S l v C1 R1) (c1 : YC C C1) (r1 : YR R R1) : YS n nd S l v C R := by
  rcases Nat.eq_zero_or_pos n with hn0 | hn0
  · have n1 : C1.1 5 3 ≤ 0 := by rw [y1.nC, hn0]; decide
    have n2 : R1.1 36 1 ≤ 0 := by rw [y1.nR, hn0]; decide
    refine ⟨false, C1, R1, ?_, fun k x2 x3 x4 hx => ?_, y1, c1, r1⟩
    · unfold fX11_drawnActGets
      rw [ec1']
      simp only [Option.bind_some, zp, if_neg h0, if_neg h3, if_pos n1]
      rfl
    · simp only [fX12_years_L39, if_neg hx, er1', Option.bind_some, zp, if_neg h0, if_pos h1, if_pos n2, if_neg h2, if_neg h3, Bool.false_eq_true, if_false]
  · have n1 : ¬ C1.1 5 3 ≤ 0 := by rw [y1.nC]; exact leF (b := 0) hn0 (by omega)
    have n2 : ¬ R1.1 36 1 ≤ 0 := by rw [y1.nR]; exact leF (b := 0) hn0 (by omega)
    obtain ⟨t, C2, R2, ht, ec2, er2, y2, c2, r2⟩ := Y_draw y1 (m := n) hn0 (by omega)
    obtain ⟨p, C3, R3, hp, ec3, er3, y3, c3, r3⟩ := Y_draw y2 (m := 6) (by omega) (by omega)
    have ec3' : fX11_draw 6 C2 = some (nI p, C3) := ec3
    have er3' : fX12_draw 6 R2 = some (nI p, R3) := er3
    rw [← y1.nC] at ec2
    rw [← y1.nR] at er2
    have cls : ∀ r D, fX11_perform 65 108 (nI t) (nI p) C3 = some (r, D) → fX11_drawnActGets C = some (bI false, D) := fun r D e => by
      unfold fX11_drawnActGets
      rw [ec1']
      rw [Option.bind_some, zp_mk, if_neg h0, if_neg h3, if_neg n1, if_pos h1, ec2, Option.bind_some, zp_mk, ec3', Option.bind_some, zp_mk, e, Option.bind_some, zp_mk, Option.bind_some]
      rfl
    rcases A_lose h8 y3.2.1 rfl (by omega) rfl (by omega) y3.agC (nI t) (nI p) with ⟨r, hr, e1, e2⟩ | ⟨t', r, D, ht', et, hr, e1, hc, e2⟩
    · refine ⟨false, C3, R3, cls r C3 e1, fun k x2 x3 x4 hx => ?_, y3, (c1.trans c2).trans c3, (r1.trans r2).trans r3⟩
      have hr0 : ¬ r = 0 := by rcases hr with rfl | rfl <;> decide
      simp only [fX12_years_L39, if_neg hx, er1', Option.bind_some, zp, if_neg h0, if_pos h1, if_neg n2, er2, er3', e2 R3 y3.agR, if_neg hr0, if_neg h2, if_neg h3, Bool.false_eq_true, if_false]
    · obtain ⟨a1, a2, -⟩ := e2 R3 y3.agR
      have ett : t' = t := by rw [nI_eq (by omega) (by omega)] at et; exact et.symm
      subst ett
      have hcD : YC C3 D := hc.CY.YC
      have hrD : YR R3 (gsR R3 49 t' 1 (nI p)) := row49.YR rfl (fun k hk => gsR_other _ _ _ hk)
      refine ⟨false, D, gsR R3 49 t' 1 (nI p), cls r D e1, fun k x2 x3 x4 hx => ?_, y3.step hcD hrD a2 ?_, ((c1.trans c2).trans c3).trans hcD, ((r1.trans r2).trans r3).trans hrD⟩
      · simp only [fX12_years_L39, if_neg hx, er1', Option.bind_some, zp, if_neg h0, if_pos h1, if_neg n2, er2, er3', a1, if_true, pX12_goes (a := 49) (how := 1) (who := nI p) (M := R3) rfl (show t' < 8 by omega), if_neg h2, if_neg h3, Bool.false_eq_true, if_false]
        rfl
      · rw [hc.2 0 (by omega), gsR_other _ _ _ (by omega)]
        exact y3.2.2.2.2.2.2
theorem Y_find {C1 R1 : zM} (h8 : n ≤ 8) {d : Int32} (h0 : ¬ d = 0) (h1 : ¬ d = 1) (h2 : d = 2) (h3 : ¬ d = 3) (ec1' : fX11_draw 4 C = some (d, C1)) (er1' : fX12_draw 4 R = some (d, R1)) (y1 : YI n nd S l v C1 R1) (c1 : YC C C1) (r1 : YR R R1) : YS n nd S l v C R := by
  rcases Nat.eq_zero_or_pos n with hn0 | hn0
  · have n1 : C1.1 5 3 ≤ 0 := by rw [y1.nC, hn0]; decide
    have n2 : R1.1 36 1 ≤ 0 := by rw [y1.nR, hn0]; decide
    refine ⟨false, C1, R1, ?_, fun k x2 x3 x4 hx => ?_, y1, c1, r1⟩
    · unfold fX11_drawnActGets
      rw [ec1']
      simp only [Option.bind_some, zp, if_neg h0, if_neg h3, if_pos n1]
      rfl
    · simp only [fX12_years_L39, if_neg hx, er1', Option.bind_some, zp, if_neg h0, if_neg h1, if_pos h2, if_pos n2, if_neg h3, Bool.false_eq_true, if_false]
  · have n1 : ¬ C1.1 5 3 ≤ 0 := by rw [y1.nC]; exact leF (b := 0) hn0 (by omega)
    have n2 : ¬ R1.1 36 1 ≤ 0 := by rw [y1.nR]; exact leF (b := 0) hn0 (by omega)
    obtain ⟨p, C2, R2, hp, ec2, er2, y2, c2, r2⟩ := Y_draw y1 (m := 6) (by omega) (by omega)
    obtain ⟨t, C3, R3, ht, ec3, er3, y3, c3, r3⟩ := Y_draw y2 (m := n) hn0 (by omega)
    have ec2' : fX11_draw 6 C1 = some (nI p, C2) := ec2
    have er2' : fX12_draw 6 R1 = some (nI p, R2) := er2
    rw [← y2.nC] at ec3
    rw [← y2.nR] at er3
    have cls : ∀ r D, fX11_perform 65 102 (nI p) (nI t) C3 = some (r, D) → fX11_drawnActGets C = some (bI false, D) := fun r D e => by
      unfold fX11_drawnActGets
      rw [ec1']
      simp only [Option.bind_some, zp, if_neg h0, if_neg h3, if_neg n1, if_neg h1, ec2', ec3, e]
      rfl
    rcases A_find h8 y3.2.1 rfl (by omega) rfl (by omega) y3.agC (nI p) (nI t) with ⟨r, hr, e1, e2⟩ | ⟨t', r, D, ht', et, hr, e1, hc, e2⟩
    · refine ⟨false, C3, R3, cls r C3 e1, fun k x2 x3 x4 hx => ?_, y3, (c1.trans c2).trans c3, (r1.trans r2).trans r3⟩
      have hr0 : ¬ r = 0 := by rcases hr with rfl | rfl <;> decide
      simp only [fX12_years_L39, if_neg hx, er1', Option.bind_some, zp, if_neg h0, if_neg h1, if_pos h2, if_neg n2, er2', er3, e2 R3 y3.agR, if_neg hr0, if_neg h3, Bool.false_eq_true, if_false]
    · obtain ⟨a1, a2, -⟩ := e2 R3 y3.agR
      have ett : t' = t := by rw [nI_eq (by omega) (by omega)] at et; exact et.symm
      subst ett
      have hcD : YC C3 D := hc.CY.YC
      have hrD : YR R3 (gsR R3 49 t' 2 (nI p)) := row49.YR rfl (fun k hk => gsR_other _ _ _ hk)
      refine ⟨false, D, gsR R3 49 t' 2 (nI p), cls r D e1, fun k x2 x3 x4 hx => ?_, y3.step hcD hrD a2 ?_, ((c1.trans c2).trans c3).trans hcD, ((r1.trans r2).trans r3).trans hrD⟩
      · simp only [fX12_years_L39, if_neg hx, er1', Option.bind_some, zp, if_neg h0, if_neg h1, if_pos h2, if_neg n2, er2', er3, a1, if_true, pX12_goes (a := 49) (how := 2) (who := nI p) (M := R3) rfl (show t' < 8 by omega), if_neg h3, Bool.false_eq_true, if_false]
        rfl
      · rw [hc.2 0 (by omega), gsR_other _ _ _ (by omega)]
        exact y3.2.2.2.2.2.2
theorem Y_claim {C1 R1 : zM} (h8 : n ≤ 8) {d : Int32} (h0 : ¬ d = 0) (h1 : ¬ d = 1) (h2 : ¬ d = 2) (h3 : d = 3) (ec1' : fX11_draw 4 C = some (d, C1)) (er1' : fX12_draw 4 R = some (d, R1)) (y1 : YI n nd S l v C1 R1) (c1 : YC C C1) (r1 : YR R R1) : YS n nd S l v C R := by
  obtain ⟨p, C2, R2, hp, ec2, er2, y2, c2, r2⟩ := Y_draw y1 (m := 7) (by omega) (by omega)
  obtain ⟨m, C3, R3, hm, ec3, er3, y3, c3, r3⟩ := Y_draw y2 (m := 256) (by omega) (by omega)
  have ec2' : fX11_draw 7 C1 = some (nI p, C2) := ec2
  have er2' : fX12_draw 7 R1 = some (nI p, R2) := er2
  have ec3' : fX11_draw 256 C2 = some (nI m, C3) := ec3
  have er3' : fX12_draw 256 R2 = some (nI m, R3) := er3
  have cls : ∀ r D, fX11_handOut 65 (nI p) (nI m) C3 = some (r, D) → fX11_drawnActGets C = some (if r < 0 then 0 else 1, D) := fun r D e => by
    unfold fX11_drawnActGets
    rw [ec1']
    simp only [Option.bind_some, zp, if_neg h0, if_pos h3, ec2', ec3', e]
    split <;> rfl
  have hCE : CE (mix C3 R3) C3 65 := ⟨(mixC _ _ (by omega)).symm, (mixC _ _ (by omega)).symm, (mixC _ _ (by omega)).symm, (mixC _ _ (by omega)).symm, (mixC _ _ (by omega)).symm, (mixC _ _ (by omega)).symm, (mixC _ _ (by omega)).symm, by rw [mixC _ _ (by omega)]⟩
  have hME : ME (mix C3 R3) R3 49 44 := ⟨by rw [mixR _ _ (by omega)], (mixR _ _ (by omega)).symm, (mixR _ _ (by omega)).symm, (mixR _ _ (by omega)).symm, (mixR _ _ (by omega)).symm, by rw [mixR _ _ (by omega)], by rw [mixR _ _ (by omega)], rfl⟩
  rcases A_claim (a := 49) (p := p) y3.1 y3.2.1 rfl (by omega) rfl (by omega) (by decide) y3.2.2.1 y3.2.2.2.1 (by rw [mixC _ _ (by omega), mixR _ _ (by omega)]; exact y3.2.2.2.2.1) hCE (fun c _ => (mixC _ _ (by omega)).symm) hp (nI m) with ⟨o1, ⟨D, e1, hc⟩, e2⟩ | ⟨t, D, o1, ht, e1, hc, e2⟩
  · obtain ⟨T, eT, fT⟩ := e2 R3 hME
    have hcD : YC C3 D := hc.YC
    have hrD : YR R3 T := fT.YR
    refine ⟨false, D, T, by rw [cls _ D e1, if_pos (by decide)]; rfl, fun k x2 x3 x4 hx => ?_, y3.step hcD hrD ?_ ?_, ((c1.trans c2).trans c3).trans hcD, ((r1.trans r2).trans r3).trans hrD⟩
    · simp only [fX12_years_L39, if_neg hx, er1', Option.bind_some, zp, if_neg h0, if_neg h1, if_neg h2, if_pos h3, er2', er3', eT, zlet, if_pos (show (-2 : Int32) < 0 by decide), iadd_0, Bool.false_eq_true, if_false]
    · refine y3.2.1.fr ?_ ?_ ?_ ?_ ?_ ?_
      · rw [mixC _ _ (by omega), mixC _ _ (by omega), hc.2 _ (by omega) (by omega)]
      · rw [mixC _ _ (by omega), mixC _ _ (by omega), hc.2 _ (by omega) (by omega)]
      · rw [mixC _ _ (by omega), mixC _ _ (by omega), hc.2 _ (by omega) (by omega)]
      · rw [mixC _ _ (by omega), mixC _ _ (by omega), hc.2 _ (by omega) (by omega)]
      · rw [mixC _ _ (by omega), mixC _ _ (by omega), hc.2 _ (by omega) (by omega)]
      · rw [mixR _ _ (by omega), mixR _ _ (by omega), fT.1 49 (by omega) (by omega)]
    · rw [hc.2 0 (by omega) (by omega), fT.2.1 36 (by omega) (by omega)]
      exact y3.2.2.2.2.2.2
  · obtain ⟨T, eT, hT, wT⟩ := e2 R3 hME
    have hcD : YC C3 D := hc.YC
    have hrD : YR R3 T := hT.YR
    have t31 : t < 2 ^ 31 := by omega
    refine ⟨true, D, T, by rw [cls _ D e1, if_neg (nI_nneg t31)]; rfl, fun k x2 x3 x4 hx => ?_, y3.step hcD hrD wT ?_, ((c1.trans c2).trans c3).trans hcD, ((r1.trans r2).trans r3).trans hrD⟩
    · simp only [fX12_years_L39, if_neg hx, er1', Option.bind_some, zp, if_neg h0, if_neg h1, if_neg h2, if_pos h3, er2', er3', eT, zlet, if_neg (nI_nneg t31), if_true]
    · rw [hc.2 0 (by omega) (by omega) (by omega), hT.2.2.2 36 (by decide)]
      exact y3.2.2.2.2.2.2
theorem Y_step (h : YI n nd S l v C R) : YS n nd S l v C R := by
  have h8 := h.1.1.1
  obtain ⟨q, C1, R1, hq, ec1, er1, y1, c1, r1⟩ := Y_draw h (m := 4) (by omega) (by omega)
  have hq4 : q = 0 ∨ q = 1 ∨ q = 2 ∨ q = 3 := by omega
  rcases hq4 with rfl | rfl | rfl | rfl
  · exact Y_day h8 n0e (by decide) (by decide) (by decide) ec1 er1 y1 c1 r1
  · exact Y_loss h8 (by decide) n1e (by decide) (by decide) ec1 er1 y1 c1 r1
  · exact Y_find h8 (by decide) (by decide) n2e (by decide) ec1 er1 y1 c1 r1
  · exact Y_claim h8 (by decide) (by decide) (by decide) n3e ec1 er1 y1 c1 r1
theorem Y_loop {many : Nat} (hm : many < 1000) : ∀ k i m m' c (C R : zM), i + k = many → k < m → k < m' → YI n nd S l v C R → ∃ c' D T, fX11_years_L34 (nI many) m (nI c) (nI i) C = some (nI c', D) ∧ fX12_years_L39 (nI many) m' (nI c) (nI i) R = some (nI c', T) ∧ YI n nd S l v D T ∧ YC C D ∧ YR R T := by
  intro k
  induction k with
  | zero =>
    intro i m m' c C R hi hm1 hm2 h
    obtain ⟨m, rfl⟩ : ∃ q, m = q + 1 := ⟨m - 1, by omega⟩
    obtain ⟨m', rfl⟩ : ∃ q, m' = q + 1 := ⟨m' - 1, by omega⟩
    have : i = many := by omega
    subst this
    refine ⟨c, C, R, ?_, ?_, h, YC.refl C, YR.refl R⟩
    · simp only [fX11_years_L34, if_pos (leT (Nat.le_refl i) (by omega))]
    · simp only [fX12_years_L39, if_pos (leT (Nat.le_refl i) (by omega))]
  | succ k ih =>
    intro i m m' c C R hi hm1 hm2 h
    obtain ⟨m, rfl⟩ : ∃ q, m = q + 1 := ⟨m - 1, by omega⟩
    obtain ⟨m', rfl⟩ : ∃ q, m' = q + 1 := ⟨m' - 1, by omega⟩
    obtain ⟨b, D0, T0, e1, e2, y, hc, hr⟩ := Y_step h
    have hlt : ¬ nI many ≤ nI i := leF (show i < many by omega) (by omega)
    obtain ⟨c', D, T, g1, g2, g3, g4, g5⟩ := ih (i + 1) m m' (if b = true then c + 1 else c) D0 T0 (by omega) (by omega) (by omega) y
    refine ⟨c', D, T, ?_, ?_, g3, hc.trans g4, hr.trans g5⟩
    · rw [← g1]
      simp only [fX11_years_L34, if_neg hlt, e1, Option.bind_some, zp, zlet, nI_1]
      cases b <;> rfl
    · rw [e2 m' (nI many) (nI c) (nI i) hlt, ← g2]
      cases b
      · simp only [Bool.false_eq_true, if_false, nI_1]
      · simp only [if_true, nI_1]
end YRS
theorem op_years {M : zM} {n nd : Nat} (hS : RS M n nd) (hW : RW M n 60 37 0) (hC : RC M) (hU : RU M) (hO : RO M) (sd y : Int32) : OpQ (fX11_years sd y) (fX12_years sd y) M := by
  have h8 := hS.1.1
  have in60 : fX12_in y 1 60 = if y < 1 then 0 else if 60 < y then 0 else 1 := rfl
  by_cases c1 : y < 1
  · refine opR (r := -1) hO ?_ (fun N f => ?_)
    · unfold fX11_years
      exact wpO_tk c1 (wpO_ret ⟨rfl, FrC.refl M, rfl, rfl⟩)
    · unfold fX12_years
      exact wM_thrown (fun N0 f0 a1 a2 _ => wpO_tk (by rw [in60, if_pos c1]) (wpO_ret ⟨rfl, f0, a1, by rw [a2]⟩))
  · by_cases c2 : y ≤ 60
    · obtain ⟨k, hk, rfl⟩ : ∃ k, k < 61 ∧ y = nI k := by
        rcases split_ix y (n := 61) (by omega) with q | q
        · exfalso
          rcases q with q | q
          · apply c1
            rw [Int32.lt_iff_toInt_lt] at q ⊢
            have e1 : (1 : Int32).toInt = 1 := by decide
            have e0 : (0 : Int32).toInt = 0 := by decide
            omega
          · rw [Int32.le_iff_toInt_le] at q c2
            rw [nI_toInt (by omega)] at q
            have e1 : (60 : Int32).toInt = 60 := by decide
            omega
        · exact q
      obtain ⟨l, v, S, hR⟩ := hU
      obtain ⟨Ca, eb, hb⟩ := p_become (x0 := 65) (x1 := 60) (M := M) rfl rfl (by omega)
      let C0 : zM := zSI Ca 0 16 sd
      have kC : ∀ k, k ≠ 0 → k < 65 ∨ 69 < k → C0.1 k = M.1 k := fun k a b => by
        show (zSI Ca 0 16 sd).1 k = _
        rw [zSI_other _ _ _ a, hb.2.1 k (by omega)]
      have k0 : ∀ j, j ≠ 16 → C0.1 0 j = M.1 0 j := fun j hj => by
        show (zSI Ca 0 16 sd).1 0 j = _
        rw [gSI, if_neg (by omega), hb.2.1 0 (by omega)]
      -- any memory of the reference that has what lasts
      have start : ∀ R : zM, (∀ k, 36 < k → k < 59 → pr k = true → R.1 k = M.1 k) → (∀ j, ps j = true → R.1 36 j = M.1 36 j) → R.2.2 19 = M.2.2 19 → R.1 36 36 = sd → (∀ j, j < 26 → R.1 49 j = M.1 37 j) → YI n nd S l v C0 R := by
        intro R r1 r2 r3 r4 r5
        refine ⟨?_, ?_, ?_, r3.trans hC.2.2.2.2.1, by rw [k0 18 (by omega), r2 4 rfl]; exact hC.2.2.1, by rw [k0 17 (by omega), r2 3 rfl]; exact hC.2.1, ?_⟩
        · unfold RS
          rw [mixC C0 R (k := 5) (by omega), mixC C0 R (k := 6) (by omega), mixC C0 R (k := 7) (by omega), mixC C0 R (k := 8) (by omega), mixR C0 R (k := 36) (by omega), mixR C0 R (k := 38) (by omega), mixR C0 R (k := 39) (by omega), mixR C0 R (k := 40) (by omega), kC 5 (by omega) (by omega), kC 6 (by omega) (by omega), kC 7 (by omega) (by omega), kC 8 (by omega) (by omega), r2 1 rfl, r2 2 rfl, r1 38 (by omega) (by omega) rfl, r1 39 (by omega) (by omega) rfl, r1 40 (by omega) (by omega) rfl]
          exact hS
        · refine hW.copy h8 (fun c a b t ht => ?_) ?_ ?_ (fun j hj => ?_)
          · rw [mixC _ _ (by omega)]
            show (zSI Ca 0 16 sd).1 (65 + c) t = _
            rw [zSI_other _ _ _ (by omega), hb.2.2.1 c a b t ht]
          · rw [mixC _ _ (by omega)]
            show (zSI Ca 0 16 sd).1 65 4 = _
            rw [zSI_other _ _ _ (by omega), hb.2.2.2.1]
          · rw [mixC _ _ (by omega)]
            show (zSI Ca 0 16 sd).1 65 5 = _
            rw [zSI_other _ _ _ (by omega), hb.2.2.2.2]
          · rw [mixR _ _ (by omega), Nat.zero_add, r5 j hj]
        · exact (show RV M l v S from hR).of (by rw [mixC _ _ (by omega), kC 13 (by omega) (by omega)]) (by rw [mixC _ _ (by omega), kC 14 (by omega) (by omega)]) (by rw [mixR _ _ (by omega), r1 44 (by omega) (by omega) rfl]) (by rw [mixR _ _ (by omega), r2 21 rfl])
        · rw [r4]
          show (zSI Ca 0 16 sd).1 0 16 = _
          rw [gSI, if_pos ⟨rfl, rfl⟩]
      obtain ⟨Rm, -, hl⟩ := p_lay (x0 := 37) (x1 := 49) (o := 0) (l0 := 26) (l1 := 26) (M := zSI M 36 36 sd) rfl rfl (by omega) (by omega) (by decide) (by omega)
      have ym : YI n nd S l v C0 Rm := start Rm (fun k a b c => by rw [hl.2.1 k (fun z => by rw [z] at c; cases c), zSI_other _ _ _ (by omega)]) (fun j hj => by rw [hl.2.1 36 (by omega), gSI, if_neg (fun z => by rw [z.2] at hj; cases hj)]) (by rw [hl.1]; rfl) (by rw [hl.2.1 36 (by omega), gSI, if_pos ⟨rfl, rfl⟩]) (fun j hj => by rw [hl.2.2, if_pos ⟨by omega, by omega⟩, zSI_other _ _ _ (by omega)]; simp)
      obtain ⟨c', D, T0, g1, -, g3, g4, -⟩ := Y_loop (show k < 1000 by omega) k 0 4000 4000 0 C0 Rm (by omega) (by omega) (by omega) ym
      have kD : ∀ q, q ≠ 0 → q ≠ 15 → q ≠ 16 → q < 65 ∨ 69 < q → D.1 q = M.1 q := fun q a b c d => by rw [g4.2.1 q a b c (by omega), kC q a d]
      have fD : FrC M D := by
        refine ⟨fun q a b => kD q (by omega) (by omega) (by omega) (by omega), fun q _ => by rw [g4.1]; show Ca.2.1 q = _; rw [hb.1], by rw [g4.1]; show Ca.2.2 = _; rw [hb.1], fun q hq => ?_, by rw [g4.2.2 17 (by omega), k0 17 (by omega)], by rw [g4.2.2 18 (by omega), k0 18 (by omega)]⟩
        have n0 : ¬ (q = 0 ∨ q = 15 ∨ q = 16 ∨ q = 65 ∨ q = 66 ∨ q = 67 ∨ q = 68 ∨ q = 69) := by rintro (rfl | rfl | rfl | rfl | rfl | rfl | rfl | rfl) <;> cases hq
        exact kD q (by omega) (by omega) (by omega) (by omega)
      refine opQ (r := nI c') (l := [(bsA (fun t => decide (D.1 66 t = nI 6)) 8).toInt64, (bsA (fun t => !decide (D.1 68 t < 0)) 8).toInt64]) (Nat.le_of_ble_eq_true rfl) ?_ (fun N f => ?_)
      · unfold fX11_years
        refine wpO_fk c1 (wpO_tk c2 (wpO_ek eb (wpO_lk (wpO_ek g1 (wpO_pk (vC_begin (fun N1 t1 r1 => ?_)))))))
        refine wpO_ek (pX10_heldBy (w := 65) rfl) (vC_tell r1 (Nat.le_of_ble_eq_true rfl) (fun N2 t2 r2 => wpO_ek (pX10_inside (w := 65) rfl) (vC_tell r2 (Nat.le_of_ble_eq_true rfl) (fun N3 t3 r3 => ?_))))
        have t12 := t1.trans t2
        have t := t12.trans t3
        rw [t1.1 66 (by omega), t12.1 68 (by omega)] at r3
        refine wpO_ret ⟨rfl, fD.trans ⟨fun k a b => t.1 k (by omega), t.2.1, t.2.2, fun k hk => t.1 k (fun z => by rw [z] at hk; cases hk), by rw [t.1 0 (by omega)], by rw [t.1 0 (by omega)]⟩, r3⟩
      · unfold fX12_years
        refine wM_thrown (fun N0 f0 _ _ _ => wpO_fk (by rw [in60, if_neg c1, if_neg (fun z => (ile_nlt (nI k) 60).mpr z c2)]; decide) (wpO_lk ?_))
        obtain ⟨R, eR, l1, l2, l3⟩ := p_lay (x0 := 37) (x1 := 49) (o := 0) (l0 := 26) (l1 := 26) (M := zSI N0 36 36 sd) rfl rfl (by omega) (by omega) (by decide) (by omega)
        have e := (E12.ofC f).fr f0
        have yR : YI n nd S l v C0 R := start R (fun k a b c => by rw [l2 k (fun z => by rw [z] at c; cases c), zSI_other _ _ _ (by omega)]; exact e.1 k a b c) (fun j hj => by rw [l2 36 (by omega), gSI, if_neg (fun z => by rw [z.2] at hj; cases hj)]; exact e.2.1 j hj) (by rw [l1]; exact e.2.2.1) (by rw [l2 36 (by omega), gSI, if_pos ⟨rfl, rfl⟩]) (fun j hj => by rw [l3, if_pos ⟨by omega, by omega⟩, zSI_other _ _ _ (by omega), e.1 37 (by omega) (by omega) rfl]; simp)
        obtain ⟨c2', D', T, w1, w2, w3, w4, w5⟩ := Y_loop (show k < 1000 by omega) k 0 4000 4000 0 C0 R (by omega) (by omega) (by omega) yR
        rw [g1] at w1
        obtain ⟨ec, eD⟩ := Prod.mk.inj (Option.some.inj w1)
        subst eD
        rw [← ec] at w2
        refine wpO_ek (show fX12_lay 37 49 0 (zSI N0 36 36 sd) = some R from eR) (wpO_ek w2 (wpO_pk (vM_begin (fun N1 t1 r1 => ?_))))
        have sn : T.1 36 1 = nI n := w3.nR
        refine wpO_ek (pX12_hadBy (a := 49) (n := n) (by rw [t1.2.1 1 (by omega)]; exact sn) h8 rfl) (vM_tell r1 (Nat.le_of_ble_eq_true rfl) (fun N2 t2 r2 => ?_))
        have t12 := t1.trans t2
        refine wpO_ek (pX12_those (a := 49) (n := n) (by rw [t12.2.1 1 (by omega)]; exact sn) h8 rfl) (vM_tell r2 (Nat.le_of_ble_eq_true rfl) (fun N3 t3 r3 => ?_))
        have t := t12.trans t3
        rw [t1.1 49 (by omega), t12.1 49 (by omega), show (6 : Int32) = nI 6 from rfl, mix_held h8 (by omega) (by omega) w3.2.1 (by omega), mix_in h8 (by omega) (by omega) w3.2.1] at r3
        refine wpO_ret ⟨rfl, ?_, r3⟩
        have fT : FrM N0 T := by
          have a49 : ∀ k, k ≠ 36 → k ≠ 46 → k ≠ 49 → T.1 k = N0.1 k := fun k a b c => by rw [w5.2.2.1 k a b c, l2 k c, zSI_other _ _ _ a]
          refine ⟨fun k a => a49 k (by omega) (by omega) (by omega), by rw [w5.1, l1]; rfl, fun k hk => a49 k (fun z => by rw [z] at hk; cases hk) (fun z => by rw [z] at hk; cases hk) (fun z => by rw [z] at hk; cases hk), fun j hj => ?_, by rw [w5.2.1 19 (by omega), l1]; rfl, by rw [w5.2.1 20 (by omega), l1]; rfl⟩
          have nj : j ∉ [12, 13, 14, 15, 16, 17, 22, 36] := by
            intro z
            simp at z
            rcases z with rfl | rfl | rfl | rfl | rfl | rfl | rfl | rfl <;> cases hj
          simp at nj
          rw [w5.2.2.2 j (by simp; omega), l2 36 (by omega), gSI, if_neg (by omega)]
        exact f0.trans (fT.trans ⟨fun k a => t.1 k (by omega), t.2.2.1 4 (by omega), fun k hk => t.1 k (fun z => by rw [z] at hk; cases hk), fun j hj => t.2.1 j (fun z => by rw [z] at hj; cases hj), by rw [t.2.2.2], by rw [t.2.2.2]⟩)
    · refine opR (r := -1) hO ?_ (fun N f => ?_)
      · unfold fX11_years
        exact wpO_fk c1 (wpO_fk c2 (wpO_ret ⟨rfl, FrC.refl M, rfl, rfl⟩))
      · unfold fX12_years
        exact wM_thrown (fun N0 f0 a1 a2 _ => wpO_tk (by rw [in60, if_neg c1, if_pos ((ile_nlt y 60).mp c2)]) (wpO_ret ⟨rfl, f0, a1, by rw [a2]⟩))
