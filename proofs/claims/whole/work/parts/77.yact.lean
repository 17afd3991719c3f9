/-! the acts of a year, done -/
theorem act_l (x y : Int32) (R : zM) : fX12_act 108 x y R = (fX12_refusesLoss 37 x y R).bind fun r => if 0 ≤ r then (fX12_goes 37 x 1 y R).bind fun M => some (1, M) else some (0, R) := by
  simp only [fX12_act, show ¬ (108 : Int32) = 99 by decide, show ¬ (108 : Int32) = 100 by decide, show ¬ (108 : Int32) = 101 by decide, show ¬ (108 : Int32) = 102 by decide, show ¬ (108 : Int32) = 103 by decide, show ¬ (108 : Int32) = 104 by decide, show ¬ (108 : Int32) = 105 by decide, show ¬ (108 : Int32) = 106 by decide, show ¬ (108 : Int32) = 107 by decide, if_false, if_true]
theorem act_f (x y : Int32) (R : zM) : fX12_act 102 x y R = (fX12_refusesFind 37 x y R).bind fun r => if 0 ≤ r then (fX12_goes 37 y 2 x R).bind fun M => some (1, M) else some (0, R) := by
  simp only [fX12_act, show ¬ (102 : Int32) = 99 by decide, show ¬ (102 : Int32) = 100 by decide, show ¬ (102 : Int32) = 101 by decide, if_false, if_true]
theorem act_g (x y : Int32) (R : zM) : fX12_act 103 x y R = (fX12_refusesGift x y R).bind fun r => if 0 ≤ r then (if zin (8 + x) 26 then zlet (zSI R 37 (8 + x).toNatClampNeg y) fun M => some (1, M) else none) else some (0, R) := by
  simp only [fX12_act, show ¬ (103 : Int32) = 99 by decide, show ¬ (103 : Int32) = 100 by decide, show ¬ (103 : Int32) = 101 by decide, show ¬ (103 : Int32) = 102 by decide, if_false, if_true]
theorem act_c (x y : Int32) (R : zM) : fX12_act 99 x y R = if 6 < x then some (0, R) else (fX12_goClaim 37 x y R).bind fun q => zp q fun r M => if r < 0 then some (0, M) else some (1, M) := by
  simp only [fX12_act, if_true]
theorem act_d (x y : Int32) (R : zM) : fX12_act 100 x y R = (fX12_goDays 37 x R).bind fun q => zp q fun _ M => some (1, M) := by
  simp only [fX12_act, show ¬ (100 : Int32) = 99 by decide, if_false, if_true]
theorem CY.trans {w : Nat} {A B C : zM} (h : CY w A B) (g : CY w B C) : CY w A C := ⟨g.1.trans h.1, fun k a b c => (g.2 k a b c).trans (h.2 k a b c)⟩
theorem RY.trans {a : Nat} {A B C : zM} (h : RY a A B) (g : RY a B C) : RY a A C := ⟨g.1.trans h.1, fun j hj => (g.2.1 j hj).trans (h.2.1 j hj), fun k k1 k2 k3 => (g.2.2.1 k k1 k2 k3).trans (h.2.2.1 k k1 k2 k3), fun j hj => (g.2.2.2 j hj).trans (h.2.2.2 j hj)⟩
theorem CY.refl (w : Nat) (C : zM) : CY w C C := ⟨rfl, fun _ _ _ _ => rfl⟩
theorem RY.refl (a : Nat) (R : zM) : RY a R R := ⟨rfl, fun _ _ => rfl, fun _ _ _ _ => rfl, fun _ _ => rfl⟩
theorem RN.refl (R : zM) : RN R R := ⟨rfl, fun _ _ => rfl, fun _ _ _ => rfl, fun _ _ => rfl⟩
theorem CN.CY {w : Nat} {C D : zM} (h : CN C D) : CY w C D := ⟨h.1, fun k _ b c => h.2 k b c⟩
theorem RN.RY {a : Nat} {R T : zM} (h : RN R T) : RY a R T := ⟨h.1, h.2.1, fun k k1 _ k3 => h.2.2.1 k k1 k3, h.2.2.2⟩
theorem row37.RY {R T : zM} (h2 : T.2 = R.2) (h : ∀ k, k ≠ 37 → T.1 k = R.1 k) : RY 37 R T := ⟨by rw [h2], fun _ _ => by rw [h2], fun k _ c _ => h k c, fun j _ => by rw [h 36 (by omega)]⟩
section YAC
variable {n nd S : Nat} {l : List Int32} {v : (Nat → Int32) → Int32} {C R : zM}
def ZI (n nd S : Nat) (l : List Int32) (v : (Nat → Int32) → Int32) (C R : zM) : Prop := RS (mix C R) n nd ∧ RW (mix C R) n 60 37 0 ∧ RV (mix C R) l v S ∧ R.2.2 19 = some 44 ∧ C.1 0 18 = R.1 36 4 ∧ C.1 0 17 = R.1 36 3
theorem ZI.step {D T : zM} (h : ZI n nd S l v C R) (hc : CY 60 C D) (hr : RY 37 R T) (hW : RW (mix D T) n 60 37 0) : ZI n nd S l v D T := by
  obtain ⟨h1, h2, h3, h4, h5, h6⟩ := h
  have sm : Sm [15, 16, 46, 37, 60, 61, 62, 63, 64] [12, 13, 14, 15, 16, 17, 22] (mix C R) (mix D T) := by
    refine ⟨fun k k1 k2 => ?_, fun j hj => ?_, ?_, ?_⟩
    · simp at k2
      by_cases c : 36 ≤ k ∧ k < 59
      · rw [mixR _ _ c, mixR _ _ c, hr.2.2.1 k (by omega) (by omega) (by omega)]
      · rw [mixC _ _ (by omega), mixC _ _ (by omega), hc.2 k (by omega) (by omega) (by omega)]
    · rw [mixR _ _ (by omega), mixR _ _ (by omega), hr.2.2.2 j hj]
    · exact hr.2.1 19 (by omega)
    · exact hr.2.1 20 (by omega)
  exact ⟨h1.sm sm rfl rfl, hW, h3.of (sm.1 13 (by decide) (by decide)) (sm.1 14 (by decide) (by decide)) (sm.1 44 (by decide) (by decide)) (sm.2.1 21 (by decide)), (hr.2.1 19 (by omega)).trans h4, by rw [hc.2 0 (by omega) (by omega) (by omega), hr.2.2.2 4 (by decide)]; exact h5, by rw [hc.2 0 (by omega) (by omega) (by omega), hr.2.2.2 3 (by decide)]; exact h6⟩
theorem ZI.nC (h : ZI n nd S l v C R) : C.1 5 3 = nI n := by
  have := h.1.2.1.1
  rw [mixC _ _ (by omega)] at this
  exact this
theorem ZI.nR (h : ZI n nd S l v C R) : R.1 36 1 = nI n := by
  have := h.1.2.1.2.1
  rw [mixR _ _ (by omega)] at this
  exact this
theorem ZI.noW {D T : zM} (h : ZI n nd S l v C R) (hc : CN C D) (hr : RN R T) : RW (mix D T) n 60 37 0 := by
  refine h.2.1.fr ?_ ?_ ?_ ?_ ?_ ?_
  · rw [mixC _ _ (by omega), mixC _ _ (by omega), hc.2 _ (by omega) (by omega)]
  · rw [mixC _ _ (by omega), mixC _ _ (by omega), hc.2 _ (by omega) (by omega)]
  · rw [mixC _ _ (by omega), mixC _ _ (by omega), hc.2 _ (by omega) (by omega)]
  · rw [mixC _ _ (by omega), mixC _ _ (by omega), hc.2 _ (by omega) (by omega)]
  · rw [mixC _ _ (by omega), mixC _ _ (by omega), hc.2 _ (by omega) (by omega)]
  · rw [mixR _ _ (by omega), mixR _ _ (by omega), hr.2.2.1 _ (by omega) (by omega)]
def AOne (n : Nat) (C R : zM) (a : actT) (z : Int32) : Prop :=
  (∃ r D T, r < 0 ∧ fX11_perform 60 a.1 a.2.1 a.2.2 C = some (r, D) ∧ fX12_act a.1 a.2.1 z R = some (0, T) ∧ CN C D ∧ RN R T) ∨ (∃ r D T, ¬ r < 0 ∧ fX11_perform 60 a.1 a.2.1 a.2.2 C = some (r, D) ∧ fX12_act a.1 a.2.1 z R = some (1, T) ∧ CY 60 C D ∧ RY 37 R T ∧ RW (mix D T) n 60 37 0)
theorem A_one (h : ZI n nd S l v C R) {a : actT} (ha : actOk a) {z : Int32} (hz : a.1 = 100 ∨ z = a.2.2) : AOne n C R a z := by
  have h8 := h.1.1.1
  have hW := h.2.1
  have agC : AgC (mix C R) C 60 n := ⟨h.nC, fun c hc => (mixC _ _ (by omega)).symm⟩
  have agR : AgR (mix C R) R 37 n := ⟨h.nR, (mixR _ _ (by omega)).symm⟩
  obtain ⟨k, x, y⟩ := a
  obtain ⟨⟨d, hd, ed⟩, hk⟩ := ha
  dsimp only at ed hk hz
  subst ed
  rcases hk with ⟨rfl, b, hb, rfl⟩ | rfl | rfl | rfl | rfl
  · -- a claim
    have ez : z = nI b := hz.resolve_left (by decide)
    subst ez
    unfold AOne
    dsimp only
    rw [perf_c, act_c]
    rcases Nat.lt_or_ge d 7 with d7 | d7
    · have c1 : ¬ fX11_isSomebody (nI d) = 0 := by rw [isSo1 d7]; decide
      have c2 : ¬ fX11_isDescription (nI b) = 0 := by rw [(isDe1 hb).1]; decide
      rw [if_neg c1, if_neg c2, if_neg (show ¬ 6 < nI d from ltF (a := 6) (b := d) (by omega) (by omega))]
      have hCE : CE (mix C R) C 60 := ⟨(mixC _ _ (by omega)).symm, (mixC _ _ (by omega)).symm, (mixC _ _ (by omega)).symm, (mixC _ _ (by omega)).symm, (mixC _ _ (by omega)).symm, (mixC _ _ (by omega)).symm, (mixC _ _ (by omega)).symm, by rw [mixC _ _ (by omega)]⟩
      have hME : ME (mix C R) R 37 44 := ⟨by rw [mixR _ _ (by omega)], (mixR _ _ (by omega)).symm, (mixR _ _ (by omega)).symm, (mixR _ _ (by omega)).symm, (mixR _ _ (by omega)).symm, by rw [mixR _ _ (by omega)], by rw [mixR _ _ (by omega)], rfl⟩
      rcases A_claim (a := 37) (p := d) h.1 hW rfl (by omega) rfl (by omega) (by decide) h.2.2.1 h.2.2.2.1 (by rw [mixC _ _ (by omega), mixR _ _ (by omega)]; exact h.2.2.2.2.1) hCE (fun c hc => (mixC _ _ (by omega)).symm) d7 (nI b) with ⟨-, ⟨D, e1, hc⟩, e2⟩ | ⟨t, D, -, ht, e1, hc, e2⟩
      · obtain ⟨T, e3, fq⟩ := e2 R hME
        refine Or.inl ⟨-2, D, T, by decide, by rw [e1]; rfl, ?_, hc, RN.ofQ fq⟩
        rw [e3, Option.bind_some, zp_mk, if_pos (by decide)]
      · obtain ⟨T, e3, ry, w⟩ := e2 R hME
        refine Or.inr ⟨nI t, D, T, nI_nneg (by omega), by rw [e1]; rfl, ?_, hc, ry, w⟩
        rw [e3, Option.bind_some, zp_mk, if_neg (nI_nneg (by omega))]
    · refine Or.inl ⟨-1, C, R, by decide, ?_, ?_, CN.refl C, RN.refl R⟩
      · rw [if_pos (isSo0 (Or.inr (leT d7 (by omega))))]
      · rw [if_pos (show 6 < nI d from ltT (a := 6) (by omega) (by omega))]
  · -- days
    unfold AOne
    dsimp only
    rw [perf_d, act_d]
    have c1 : ¬ fX11_isSpan (nI d) = 0 := by rw [isSp1 (by omega)]; decide
    obtain ⟨w, D, T, w1, w2, w3, w4, w5, w6⟩ := A_days h8 hW rfl (by omega) rfl (by omega) (show d < 1000 by omega) h.nR
    have hw : w < 256 := Nat.lt_of_lt_of_le w1 (pow_le_256 h8)
    refine Or.inr ⟨nI (pcN w), D, T, nI_nneg (by have := pcN_le w; omega), ?_, ?_, w5.CY, row37.RY w6.1 w6.2, w4⟩
    · rw [if_neg c1, if_pos (show zSH 60 = .inl 10 from rfl), h.2.2.2.2.2, w2, Option.bind_some, zp_mk, bc_nI w hw]
    · rw [w3, Option.bind_some, zp_mk]
  · -- a find
    have ez : z = y := hz.resolve_left (by decide)
    subst ez
    unfold AOne
    dsimp only
    rw [act_f]
    rcases A_find h8 hW rfl (by omega) rfl (by omega) agC (nI d) z with ⟨r, hr, e1, e2⟩ | ⟨t, r, D, ht, hy, hr, e1, hc, e2⟩
    · refine Or.inl ⟨r, C, R, by rcases hr with rfl | rfl <;> decide, e1, ?_, CN.refl C, RN.refl R⟩
      rw [e2 R agR, Option.bind_some, if_neg (by rcases hr with rfl | rfl <;> decide)]
    · obtain ⟨g1, g2, -⟩ := e2 R agR
      subst hy
      refine Or.inr ⟨r, D, gsR R 37 t 2 (nI d), hr, e1, ?_, hc.CY, row37.RY rfl (fun k hk => gsR_other _ _ _ hk), g2⟩
      rw [g1, Option.bind_some, if_pos (by decide), pX12_goes rfl (show t < 8 by omega), Option.bind_some]
      rfl
  · -- a gift
    have ez : z = y := hz.resolve_left (by decide)
    subst ez
    unfold AOne
    dsimp only
    rw [act_g]
    rcases A_give h8 hW rfl (by omega) agC (nI d) z with ⟨r, hr, e1, e2⟩ | ⟨t, r, D, ht, hy, hr, e1, hc, -, e2⟩
    · refine Or.inl ⟨r, C, R, by rcases hr with rfl | rfl <;> decide, e1, ?_, CN.refl C, RN.refl R⟩
      rw [e2 R agR, Option.bind_some, if_neg (by rcases hr with rfl | rfl <;> decide)]
    · obtain ⟨g1, g2⟩ := e2 R agR
      have hdt : d = t := (nI_eq (by omega) (by omega)).mp hy
      subst hdt
      refine Or.inr ⟨r, D, zSI R 37 (8 + d) z, hr, e1, ?_, hc.CY, row37.RY rfl (fun k hk => zSI_other _ _ _ hk), g2⟩
      rw [g1, Option.bind_some, if_pos (by decide), show (8 : Int32) + nI d = nI (8 + d) from nI_add 8 d, if_pos (zinT (show 8 + d < 26 by omega) (by omega)), nI_clamp (show 8 + d < 2 ^ 31 by omega)]
      rfl
  · -- a loss
    have ez : z = y := hz.resolve_left (by decide)
    subst ez
    unfold AOne
    dsimp only
    rw [act_l]
    rcases A_lose h8 hW rfl (by omega) rfl (by omega) agC (nI d) z with ⟨r, hr, e1, e2⟩ | ⟨t, r, D, ht, hy, hr, e1, hc, e2⟩
    · refine Or.inl ⟨r, C, R, by rcases hr with rfl | rfl <;> decide, e1, ?_, CN.refl C, RN.refl R⟩
      rw [e2 R agR, Option.bind_some, if_neg (by rcases hr with rfl | rfl <;> decide)]
    · obtain ⟨g1, g2, -⟩ := e2 R agR
      have hdt : d = t := (nI_eq (by omega) (by omega)).mp hy
      subst hdt
      refine Or.inr ⟨r, D, gsR R 37 d 1 z, hr, e1, ?_, hc.CY, row37.RY rfl (fun k hk => gsR_other _ _ _ hk), g2⟩
      rw [g1, Option.bind_some, if_pos (by decide), pX12_goes rfl (show d < 8 by omega), Option.bind_some]
      rfl
def AgY (acts : List actT) (C R : zM) : Prop := C.1 22 3 = nI acts.length ∧ (∀ j a, acts[j]? = some a → C.1 23 j = a.1 ∧ C.1 24 j = a.2.1 ∧ C.1 25 j = a.2.2) ∧ ∀ j a, acts[j]? = some a → R.1 50 (3 * j) = a.1 ∧ R.1 50 (3 * j + 1) = a.2.1 ∧ (a.1 = 100 ∨ R.1 50 (3 * j + 2) = a.2.2)
theorem A_acts {acts : List actT} (hl : acts.length ≤ 30) (hok : ∀ a ∈ acts, actOk a) : ∀ rest i C R m m', i + rest = acts.length → rest + 1 < m → rest < m' → ZI n nd S l v C R → AgY acts C R → ∃ d D T, i ≤ d ∧ d ≤ acts.length ∧ fX11_year_L42 m (nI i) (nI i) C = some (nI d, D) ∧ fX12_year_L72 (nI acts.length) m' (nI i) R = some (nI d, T) ∧ CY 60 C D ∧ RY 37 R T ∧ RW (mix D T) n 60 37 0 ∧ (d = i → CN C D ∧ RN R T) := by
  intro rest
  induction rest with
  | zero =>
    intro i C R m m' hi hm hm' h ag
    obtain ⟨m, rfl⟩ : ∃ q, m = q + 1 := ⟨m - 1, by omega⟩
    obtain ⟨m', rfl⟩ : ∃ q, m' = q + 1 := ⟨m' - 1, by omega⟩
    refine ⟨i, C, R, Nat.le_refl i, by omega, ?_, ?_, CY.refl 60 C, RY.refl 37 R, h.2.1, fun _ => ⟨CN.refl C, RN.refl R⟩⟩
    · rw [fX11_year_L42.eq_2, ag.1, if_pos (leT (show acts.length ≤ i by omega) (by omega))]
    · rw [fX12_year_L72.eq_2, if_pos (leT (show acts.length ≤ i by omega) (by omega))]
  | succ rest ih =>
    intro i C R m m' hi hm hm' h ag
    obtain ⟨m, rfl⟩ : ∃ q, m = q + 1 := ⟨m - 1, by omega⟩
    obtain ⟨m', rfl⟩ : ∃ q, m' = q + 1 := ⟨m' - 1, by omega⟩
    have il : i < acts.length := by omega
    have i31 : i < 2 ^ 31 := by omega
    have hget : acts[i]? = some acts[i] := List.getElem?_eq_getElem il
    have c1 := ag.2.1 i _ hget
    have r1 := ag.2.2 i _ hget
    have ho := A_one h (hok _ (List.getElem_mem il)) r1.2.2
    generalize acts[i] = a at c1 r1 ho
    have eC : fX11_year_L42 (m + 1) (nI i) (nI i) C = (fX11_perform 60 a.1 a.2.1 a.2.2 C).bind fun q => zp q fun r5 M90 => fX11_year_L42 m (if r5 < 0 then nI i else nI (i + 1)) (nI (i + 1)) M90 := by
      rw [fX11_year_L42.eq_2, ag.1, if_neg (leF il (by omega)), if_pos rfl, if_pos (zinT (show i < 30 by omega) i31), nI_clamp i31, c1.1, c1.2.1, c1.2.2, nI_1]
      rfl
    have eR : fX12_year_L72 (nI acts.length) (m' + 1) (nI i) R = (fX12_act a.1 a.2.1 (R.1 50 (3 * i + 2)) R).bind fun q => zp q fun r9 M106 => if r9 = 0 then some (nI i, M106) else fX12_year_L72 (nI acts.length) m' (nI (i + 1)) M106 := by
      rw [fX12_year_L72.eq_2, if_neg (leF il (by omega)), show (3 : Int32) * nI i = nI (3 * i) from pk_mul 3 i, nI_1, show nI (3 * i) + 2 = nI (3 * i + 2) from nI_add (3 * i) 2, if_pos (zinT (show 3 * i < 240 by omega) (by omega)), if_pos (zinT (show 3 * i + 1 < 240 by omega) (by omega)), if_pos (zinT (show 3 * i + 2 < 240 by omega) (by omega)), nI_clamp (show 3 * i < 2 ^ 31 by omega), nI_clamp (show 3 * i + 1 < 2 ^ 31 by omega), nI_clamp (show 3 * i + 2 < 2 ^ 31 by omega), r1.1, r1.2.1, nI_1]
    rcases ho with ⟨r, D, T, hr, e1, e2, hc, hn⟩ | ⟨r, D, T, hr, e1, e2, hc, hn, hw⟩
    · refine ⟨i, D, T, Nat.le_refl i, by omega, ?_, ?_, hc.CY, hn.RY, h.noW hc hn, fun _ => ⟨hc, hn⟩⟩
      · obtain ⟨m, rfl⟩ : ∃ q, m = q + 1 := ⟨m - 1, by omega⟩
        rw [eC, e1, Option.bind_some, zp_mk, if_pos hr, fX11_year_L42.eq_2]
        rw [if_neg (show ¬ nI i = nI (i + 1) from fun z => by have := (nI_eq (by omega) (by omega)).mp z; omega), ite_self]
      · rw [eR, e2, Option.bind_some, zp_mk, if_pos rfl]
    · have ag' : AgY acts D T := by
        refine ⟨by rw [hc.2 22 (by omega) (by omega) (by omega)]; exact ag.1, fun j b hj => ?_, fun j b hj => ?_⟩
        · rw [hc.2 23 (by omega) (by omega) (by omega), hc.2 24 (by omega) (by omega) (by omega), hc.2 25 (by omega) (by omega) (by omega)]
          exact ag.2.1 j b hj
        · rw [hn.2.2.1 50 (by omega) (by omega) (by omega)]
          exact ag.2.2 j b hj
      obtain ⟨d, D2, T2, d1, d2, g1, g2, g3, g4, g5, -⟩ := ih (i + 1) D T m m' (by omega) (by omega) (by omega) (h.step hc hn hw) ag'
      refine ⟨d, D2, T2, by omega, d2, ?_, ?_, hc.trans g3, hn.trans g4, g5, fun z => absurd z (by omega)⟩
      · rw [eC, e1, Option.bind_some, zp_mk, if_neg hr, g1]
      · rw [eR, e2, Option.bind_some, zp_mk, if_neg (by decide), g2]
end YAC
