/-! rule, law -/
theorem RX.empty {N : zM} (h1 : N.1 1 1 = 0) (h9 : N.1 36 9 = 0) : RX N := ⟨0, by omega, h1, h9, fun j hj => absurd hj (by omega)⟩
theorem m_bt {M : zM} {k most : Nat} (h : M.1 36 9 = nI k) : ∃ R, fX12_beginText (nI most) M = R ∧ (∀ q, q ≠ 36 → R.1 q = M.1 q) ∧ (∀ j, j ∉ [9, 13, 14, 15, 16, 17] → R.1 36 j = M.1 36 j) ∧ R.2.1 = M.2.1 ∧ (∀ j, j ≠ 13 → R.2.2 j = M.2.2 j) ∧ R.1 36 9 = 0 ∧ R.1 36 14 = nI k ∧ R.1 36 15 = nI most ∧ R.1 36 16 = 0 ∧ R.1 36 17 = -1 ∧ R.2.2 13 = some 41 := by
  obtain ⟨f, a1, a2, a3, a4, a5⟩ := m_begin (M := M) (a := 41) (n := k) (most := most)
  have e : fX12_beginText (nI most) M = zSI (fX12_begin 41 (nI k) (nI most) M) 36 9 0 := by unfold fX12_beginText; rw [h]; rfl
  have hb : ∀ q, q ≠ 36 → (fX12_begin 41 (nI k) (nI most) M).1 q = M.1 q := fun q hq => by
    show (zSI (zSI (zSI (zSI (zSD M 13 (some 41)) 36 14 _) 36 15 _) 36 16 0) 36 17 (-1)).1 q = _
    rw [zSI_other _ _ _ hq, zSI_other _ _ _ hq, zSI_other _ _ _ hq, zSI_other _ _ _ hq]; rfl
  refine ⟨_, e, fun q hq => by rw [zSI_other _ _ _ hq, hb q hq], fun j hj => ?_, f.2.2.1, fun j hj => f.2.2.2 j hj, ?_, ?_, ?_, ?_, ?_, a5⟩
  · simp at hj
    rw [gSI, if_neg (by omega)]
    show (zSI (zSI (zSI (zSI (zSD M 13 (some 41)) 36 14 _) 36 15 _) 36 16 0) 36 17 (-1)).1 36 j = _
    rw [gSI, if_neg (by omega), gSI, if_neg (by omega), gSI, if_neg (by omega), gSI, if_neg (by omega)]; rfl
  · rw [gSI, if_pos ⟨rfl, rfl⟩]
  · rw [gSI, if_neg (by omega)]; exact a1
  · rw [gSI, if_neg (by omega)]; exact a2
  · rw [gSI, if_neg (by omega)]; exact a3
  · rw [gSI, if_neg (by omega)]; exact a4
def rOK (k : Nat) (r : pR) : Prop := r.1 = true ∧ r.2.1 = k
theorem GS_of {M : zM} {k : Nat} (hb : ∀ j, j < k → ∃ b : Nat, b < 256 ∧ M.1 2 j = nI b) : GS (gT M (min k 40)) (min k 40) := by
  refine ⟨by omega, fun j hj => by unfold gT; rw [if_neg (by omega)], fun j hj => ?_⟩
  obtain ⟨b, h1, h2⟩ := hb j (by omega)
  exact ⟨b, h1, by unfold gT; rw [if_pos hj]; exact h2⟩
theorem plain_parts {M : zM} : ∃ C, fX4_becomePlain 17 M = some C ∧ (∀ q, q ≠ 17 → q ≠ 18 → C.1 q = M.1 q) ∧ C.2 = M.2 ∧ PartsAre C 17 plainL := by
  show wpO (fX4_becomePlain 17 M) _
  unfold fX4_becomePlain
  refine wpO_tk rfl (wpO_lk (wpO_lk (wpO_ret ⟨fun q q1 q2 => by rw [zSI_other _ _ _ q1, gSA, if_neg q2], rfl, by decide, ?_, fun j x hj => ?_⟩)))
  · rw [gSI, if_pos ⟨rfl, rfl⟩]; rfl
  · have h9 : j < 9 := (List.getElem?_eq_some_iff.mp hj).1
    rw [zSI_other _ _ _ (by decide), gSA, if_pos rfl, pk_cpy_in (by omega) (by omega)]
    rw [show 0 + (j - 0) = j by omega]
    have : ∀ j, j < 9 → ∀ x, plainL[j]? = some x → zPlain.getD j 0 = x := by
      intro j hj x hx
      have e : plainL[j]? = zPlain[j]? := rfl
      rw [e] at hx
      rw [List.getD_eq_getElem?_getD, hx]; rfl
    exact this j h9 x hj
theorem c_other {M : zM} {k : Nat} (hk : k ≤ 80) (h1 : M.1 1 1 = nI k) (hb : ∀ j, j < k → ∃ b : Nat, b < 256 ∧ M.1 2 j = nI b) : ∃ w C, fX11_readOtherRule M = some (w, C) ∧ (∀ q, q ≠ 1 → q ≠ 17 → q ≠ 18 → q ≠ 21 → C.1 q = M.1 q) ∧ C.2 = M.2 ∧ C.1 1 1 = 0 ∧ ((k = 0 ∧ w = -1 ∧ PartsAre C 17 plainL) ∨ (0 < k ∧ rOK k (pAll (gT M (min k 40))) ∧ w = -1 ∧ PartsAre C 17 (pAll (gT M (min k 40))).2.2.1) ∨ (0 < k ∧ ¬ rOK k (pAll (gT M (min k 40))) ∧ w = nI (pAll (gT M (min k 40))).2.1)) := by
  rcases Nat.eq_zero_or_pos k with hz | hz
  · subst hz
    obtain ⟨C, e, c1, c2, c3⟩ := plain_parts (M := M)
    refine ⟨-1, zSI C 1 1 0, ?_, fun q q1 q2 q3 q4 => by rw [zSI_other _ _ _ q1, c1 q q2 q3], c2, by rw [gSI, if_pos ⟨rfl, rfl⟩], Or.inl ⟨rfl, rfl, ?_⟩⟩
    · unfold fX11_readOtherRule
      have : ¬ fX9_isEmpty M = 0 := by unfold fX9_isEmpty; rw [h1, if_pos (show nI 0 = 0 from rfl)]; decide
      rw [if_neg this, e]
      rfl
    · exact ⟨c3.1, by rw [zSI_other _ _ _ (by decide)]; exact c3.2.1, fun j x hj => by rw [zSI_other _ _ _ (by decide)]; exact c3.2.2 j x hj⟩
  · have hg := GS_of hb
    have ok := pAll_ok hg
    obtain ⟨⟨w, C⟩, e, f, hw, p1, p2⟩ := c_readAll hk h1 hg
    dsimp only at f hw p1 p2
    refine ⟨w, zSI C 1 1 0, ?_, fun q q1 q2 q3 q4 => by rw [zSI_other _ _ _ q1, f.1 q q2 q3 q4], f.2, by rw [gSI, if_pos ⟨rfl, rfl⟩], Or.inr ?_⟩
    · unfold fX11_readOtherRule
      have : fX9_isEmpty M = 0 := by unfold fX9_isEmpty; rw [h1, if_neg (nI_ne0 hz (by omega))]
      rw [if_pos this, e]
      rfl
    · generalize pAll (gT M (min k 40)) = r at ok hw p1 p2 ⊢
      by_cases c : rOK k r
      · refine Or.inl ⟨hz, c, by rw [hw, if_pos (show r.1 = true ∧ r.2.1 = k from c)], ?_, by rw [zSI_other _ _ _ (by decide)]; exact p1, fun j x hj => by rw [zSI_other _ _ _ (by decide)]; exact p2 j x hj⟩
        have := ok.2.2.1
        have := ok.2.1
        omega
      · exact Or.inr ⟨hz, c, by rw [hw, if_neg (show ¬ (r.1 = true ∧ r.2.1 = k) from c)]⟩
/-- what the reading of a rule leaves, of the reference -/
def FrT (M N : zM) : Prop := (∀ q, q ≠ 36 → N.1 q = M.1 q) ∧ (∀ j, j ∉ [9, 13, 14, 15, 16, 17, 22] → N.1 36 j = M.1 36 j) ∧ N.2.1 = M.2.1 ∧ ∀ j, j ≠ 13 → N.2.2 j = M.2.2 j
theorem m_other {R0 : zM} {g : Nat → Int32} {k : Nat} (hk : k ≤ 80) (h9 : R0.1 36 9 = nI k) (hg : GS g (min k 40)) (ht : ∀ j, j < min k 40 → R0.1 41 j = (g j).toInt8.toInt32) : ∃ b R, fX12_readRule R0 = some (b, R) ∧ FrT R0 R ∧ R.1 36 9 = 0 ∧ ((k = 0 ∧ ¬ b = 0) ∨ (0 < k ∧ rOK k (pAll g) ∧ ¬ b = 0) ∨ (0 < k ∧ ¬ rOK k (pAll g) ∧ b = 0 ∧ R.1 36 17 = nI (pAll g).2.1)) := by
  obtain ⟨R1, e1, t1, t2, t3, t4, t5, t6, t7, t8, t9, t10⟩ := m_bt (M := R0) (most := 40) h9
  have e1' : fX12_beginText 40 R0 = R1 := e1
  generalize hR2 : zSI R1 36 22 0 = R2
  have f2 : FrT R0 R2 := by
    subst hR2
    exact ⟨fun q hq => by rw [zSI_other _ _ _ hq, t1 q hq], fun j hj => by simp at hj; rw [gSI, if_neg (by omega), t2 j (by simp; omega)], t3, t4⟩
  have v9 : R2.1 36 9 = 0 := by subst hR2; rw [gSI, if_neg (by omega)]; exact t5
  have v14 : R2.1 36 14 = nI k := by subst hR2; rw [gSI, if_neg (by omega)]; exact t6
  have v15 : R2.1 36 15 = nI 40 := by subst hR2; rw [gSI, if_neg (by omega)]; exact t7
  have v16 : R2.1 36 16 = 0 := by subst hR2; rw [gSI, if_neg (by omega)]; exact t8
  have v17 : R2.1 36 17 = -1 := by subst hR2; rw [gSI, if_neg (by omega)]; exact t9
  have v22 : R2.1 36 22 = 0 := by subst hR2; rw [gSI, if_pos ⟨rfl, rfl⟩]
  have v13 : R2.2.2 13 = some 41 := by subst hR2; exact t10
  rcases Nat.eq_zero_or_pos k with hz | hz
  · subst hz
    refine ⟨1, R2, ?_, f2, v9, Or.inl ⟨rfl, by decide⟩⟩
    have ew : fX12_wasRight R2 = (1, R2) := by
      unfold fX12_wasRight
      rw [v14, v16, if_pos (show nI 0 ≤ 0 by decide)]
      show (fX12_fine R2, R2) = _
      unfold fX12_fine
      rw [v17, if_pos rfl]
    unfold fX12_readRule
    rw [e1']
    simp only [zlet, hR2, v14, if_pos (show nI 0 ≤ 0 by decide), Option.bind_some, ew]
  · have hst : MSt g (min k 40) k 41 (fun _ => 0) R2 0 true := by
      refine ⟨⟨v14, v15, v16, by rw [v17]; rfl⟩, ⟨v13, rfl, by show min k 40 ≤ 80; omega, by show 80 ≤ 80; omega, by decide, fun j hj => ?_⟩, Or.inl ⟨v22, fun _ _ => rfl⟩, by omega, rfl, hk⟩
      rw [f2.1 41 (by omega)]; exact ht j hj
    obtain ⟨⟨y, R3⟩, e3, f3, s3, -⟩ := m_all hg hst
    dsimp only at f3 s3
    have ok := pAll_ok hg
    generalize pAll g = r at s3 ok
    obtain ⟨⟨w14, w15, w16, w17⟩, -, -, -, -, -⟩ := s3
    have o2 := ok.2.1
    have fT3 : FrT R0 R3 := ⟨fun q hq => by rw [f3.1 q hq, f2.1 q hq], fun j hj => by simp at hj; rw [f3.2.1 j (by omega) (by omega), f2.2.1 j (by simp; omega)], by rw [f3.2.2]; exact f2.2.2.1, fun j hj => by rw [f3.2.2]; exact f2.2.2.2 j hj⟩
    have u9 : R3.1 36 9 = 0 := by rw [f3.2.1 9 (by omega) (by omega)]; exact v9
    have nz : ¬ nI k ≤ 0 := leF (b := 0) hz (by omega)
    have er : ∀ b R, fX12_wasRight R3 = (b, R) → fX12_readRule R0 = some (b, R) := fun b R ew => by
      unfold fX12_readRule
      rw [e1']
      simp only [zlet, hR2, v14, if_neg nz, e3, Option.bind_some, zp, ew]
    by_cases c : r.2.1 = k
    · cases hr : r.1 with
      | true =>
        rw [hr, if_pos rfl] at w17
        refine ⟨1, R3, er _ _ ?_, fT3, u9, Or.inr (Or.inl ⟨hz, ⟨hr, c⟩, by decide⟩)⟩
        unfold fX12_wasRight
        rw [w14, w16, if_pos (leT (show k ≤ r.2.1 by omega) (by omega))]
        show (fX12_fine R3, R3) = _
        unfold fX12_fine
        rw [w17, if_pos rfl]
      | false =>
        rw [hr, if_neg (by decide)] at w17
        refine ⟨0, R3, er _ _ ?_, fT3, u9, Or.inr (Or.inr ⟨hz, (fun z => by have := z.1; rw [hr] at this; cases this), rfl, w17⟩)⟩
        unfold fX12_wasRight
        rw [w14, w16, if_pos (leT (show k ≤ r.2.1 by omega) (by omega))]
        show (fX12_fine R3, R3) = _
        unfold fX12_fine
        rw [w17, if_neg (fun z => nI_ne_m1 (show r.2.1 < 2 ^ 31 by omega) z.symm)]
    · have lt : r.2.1 < k := by omega
      cases hr : r.1 with
      | true =>
        rw [hr, if_pos rfl] at w17
        refine ⟨0, zSI R3 36 17 (nI r.2.1), er _ _ ?_, ⟨fun q hq => by rw [zSI_other _ _ _ hq, fT3.1 q hq], fun j hj => ?_, fT3.2.2.1, fT3.2.2.2⟩, by rw [gSI, if_neg (by omega)]; exact u9, Or.inr (Or.inr ⟨hz, fun z => c z.2, rfl, by rw [gSI, if_pos ⟨rfl, rfl⟩]⟩)⟩
        · unfold fX12_wasRight
          rw [w14, w16, if_neg (leF lt (by omega))]
          have : fX12_fault (nI r.2.1) R3 = zSI R3 36 17 (nI r.2.1) := by
            unfold fX12_fault fX12_fine
            rw [w17, if_pos rfl, if_neg (by decide)]; rfl
          simp only [zlet, this]
          have e17 : (zSI R3 36 17 (nI r.2.1)).1 36 17 = nI r.2.1 := by rw [gSI, if_pos ⟨rfl, rfl⟩]
          unfold fX12_fine
          rw [e17, if_neg (fun z => nI_ne_m1 (show r.2.1 < 2 ^ 31 by omega) z.symm)]
        · simp at hj
          rw [gSI, if_neg (by omega), fT3.2.1 j (by simp; omega)]
      | false =>
        rw [hr, if_neg (by decide)] at w17
        have nm : ¬ nI r.2.1 = -1 := fun z => nI_ne_m1 (show r.2.1 < 2 ^ 31 by omega) z.symm
        refine ⟨0, R3, er _ _ ?_, fT3, u9, Or.inr (Or.inr ⟨hz, fun z => c z.2, rfl, w17⟩)⟩
        unfold fX12_wasRight
        rw [w14, w16, if_neg (leF lt (by omega))]
        have : fX12_fault (nI r.2.1) R3 = R3 := by
          unfold fX12_fault fX12_fine
          rw [w17, if_neg nm, if_pos rfl]
        simp only [zlet, this]
        unfold fX12_fine
        rw [w17, if_neg nm]
/-- the reference copies the signs of a rule into row a -/
theorem m_ruleL {M : zM} {k a : Nat} (hk : k ≤ 40) (ha : a = 44 ∨ a = 45) (h19 : M.2.2 19 = some a) (ht : ∀ j, j < k → ∃ y : Int32, M.1 41 j = y.toInt8.toInt32) : ∃ N, fX12_rule_L26 (nI k) 4000 0 M = some N ∧ N.2 = M.2 ∧ (∀ q, q ≠ a → N.1 q = M.1 q) ∧ ∀ j, j < k → N.1 a j = M.1 41 j := by
  have hA := zSH4 ha
  have hA3 : zSH a = .inr (3, 40) := by have := hA.1; rw [hA.2] at this; exact this
  refine zforI (fun n (s : Int32 × zM) => fX12_rule_L26 (nI k) n s.1 s.2) (fun i s => s.1 = nI i ∧ s.2.2 = M.2 ∧ (∀ q, q ≠ a → s.2.1 q = M.1 q) ∧ ∀ j, j < i → s.2.1 a j = M.1 41 j) k (fun r => ∃ N, r = some N ∧ N.2 = M.2 ∧ (∀ q, q ≠ a → N.1 q = M.1 q) ∧ ∀ j, j < k → N.1 a j = M.1 41 j) ?_ ?_ k 0 4000 (0, M) (by omega) (by omega) ⟨rfl, rfl, fun _ _ => rfl, fun j hj => absurd hj (by omega)⟩
  · rintro n i ⟨b, N⟩ hi ⟨q1, q2, q3, q4⟩
    dsimp only at q1 q2 q3 q4 ⊢
    subst q1
    have e19 : N.2.2 19 = some a := by rw [q2]; exact h19
    obtain ⟨y, hy⟩ := ht i hi
    have en : vp_nar .byte (M.1 41 i) = M.1 41 i := by rw [hy, nar_byte]
    refine ⟨(nI (i + 1), zSI N a i (M.1 41 i)), ⟨rfl, q2, fun q hq => by rw [zSI_other _ _ _ hq]; exact q3 q hq, fun j hj => ?_⟩, ?_⟩
    · show (zSI N a i (M.1 41 i)).1 a j = _
      rw [gSI]
      by_cases c : j = i
      · subst c; rw [if_pos ⟨rfl, rfl⟩]
      · rw [if_neg (fun z => c z.2)]; exact q4 j (by omega)
    · simp only [fX12_rule_L26, if_neg (leF hi (by omega)), e19, Option.bind_some, if_pos (zinT (show i < 80 by omega) (by omega)), hA.2, if_pos hA3, if_pos (zinT (show i < 40 by omega) (by omega)), nI_clamp (show i < 2 ^ 31 by omega), zlet, q3 41 (by omega), en, nI_1]
  · rintro n ⟨b, N⟩ ⟨q1, q2, q3, q4⟩
    dsimp only at q1 q2 q3 q4 ⊢
    subst q1
    exact ⟨N, by simp only [fX12_rule_L26, if_pos (leT (Nat.le_refl k) (by omega))], q2, q3, q4⟩
theorem m_lawL {M : zM} {k a x3 : Nat} {x2 x4 : Int32} (hk : k ≤ 40) (ha : a = 44 ∨ a = 45) (h19 : M.2.2 19 = some a) (ht : ∀ j, j < k → ∃ y : Int32, M.1 41 j = y.toInt8.toInt32) : ∃ N, fX12_law_L58 (nI k) x2 x3 x4 4000 0 M = some N ∧ N.2 = M.2 ∧ (∀ q, q ≠ a → N.1 q = M.1 q) ∧ ∀ j, j < k → N.1 a j = M.1 41 j := by
  have hA := zSH4 ha
  have hA3 : zSH a = .inr (3, 40) := by have := hA.1; rw [hA.2] at this; exact this
  refine zforI (fun n (s : Int32 × zM) => fX12_law_L58 (nI k) x2 x3 x4 n s.1 s.2) (fun i s => s.1 = nI i ∧ s.2.2 = M.2 ∧ (∀ q, q ≠ a → s.2.1 q = M.1 q) ∧ ∀ j, j < i → s.2.1 a j = M.1 41 j) k (fun r => ∃ N, r = some N ∧ N.2 = M.2 ∧ (∀ q, q ≠ a → N.1 q = M.1 q) ∧ ∀ j, j < k → N.1 a j = M.1 41 j) ?_ ?_ k 0 4000 (0, M) (by omega) (by omega) ⟨rfl, rfl, fun _ _ => rfl, fun j hj => absurd hj (by omega)⟩
  · rintro n i ⟨b, N⟩ hi ⟨q1, q2, q3, q4⟩
    dsimp only at q1 q2 q3 q4 ⊢
    subst q1
    have e19 : N.2.2 19 = some a := by rw [q2]; exact h19
    obtain ⟨y, hy⟩ := ht i hi
    have en : vp_nar .byte (M.1 41 i) = M.1 41 i := by rw [hy, nar_byte]
    refine ⟨(nI (i + 1), zSI N a i (M.1 41 i)), ⟨rfl, q2, fun q hq => by rw [zSI_other _ _ _ hq]; exact q3 q hq, fun j hj => ?_⟩, ?_⟩
    · show (zSI N a i (M.1 41 i)).1 a j = _
      rw [gSI]
      by_cases c : j = i
      · subst c; rw [if_pos ⟨rfl, rfl⟩]
      · rw [if_neg (fun z => c z.2)]; exact q4 j (by omega)
    · simp only [fX12_law_L58, if_neg (leF hi (by omega)), e19, Option.bind_some, if_pos (zinT (show i < 80 by omega) (by omega)), hA.2, if_pos hA3, if_pos (zinT (show i < 40 by omega) (by omega)), nI_clamp (show i < 2 ^ 31 by omega), zlet, q3 41 (by omega), en, nI_1]
  · rintro n ⟨b, N⟩ ⟨q1, q2, q3, q4⟩
    dsimp only at q1 q2 q3 q4 ⊢
    subst q1
    exact ⟨N, by simp only [fX12_law_L58, if_pos (leT (Nat.le_refl k) (by omega))], q2, q3, q4⟩
theorem p_ruleBecome {M : zM} {l : List Int32} (h : PartsAre M 17 l) : ∃ C, fX4_become 13 17 M = some C ∧ (∀ q, q ≠ 13 → q ≠ 14 → C.1 q = M.1 q) ∧ C.2 = M.2 ∧ PartsAre C 13 l := by
  show wpO (fX4_become 13 17 M) _
  unfold fX4_become
  refine wpO_tk rfl (wpO_tk rfl (wpO_lk (wpO_lk (wpO_ret ⟨fun q q1 q2 => by rw [zSI_other _ _ _ q1, gSA, if_neg q2], rfl, h.1, ?_, fun j x hj => ?_⟩))))
  · rw [gSI, if_pos ⟨rfl, rfl⟩, gSA, if_neg (by decide)]; exact h.2.1
  · have hl : j < l.length := (List.getElem?_eq_some_iff.mp hj).1
    have := h.1
    rw [zSI_other _ _ _ (by decide), gSA, if_pos rfl, pk_cpy_in (by omega) (by omega), show 0 + (j - 0) = j by omega]
    exact h.2.2 j x hj
/-- the signs as both have them -/
theorem RX.signs {M : zM} (h : RX M) : ∃ k, k ≤ 80 ∧ M.1 1 1 = nI k ∧ M.1 36 9 = nI k ∧ (∀ j, j < k → ∃ b : Nat, b < 256 ∧ M.1 2 j = nI b) ∧ ∀ j, j < k → M.1 41 j = (M.1 2 j).toInt8.toInt32 := by
  obtain ⟨k, a, b, c, d⟩ := h
  refine ⟨k, a, b, c, fun j hj => ?_, fun j hj => ?_⟩
  · obtain ⟨x, h1, h2, h3⟩ := d j hj
    exact ⟨x, h1, h2⟩
  · obtain ⟨x, h1, h2, h3⟩ := d j hj
    rw [h3, h2]
theorem op_rule {M : zM} {N : Nat} (h : RAll M N) : OpS fX11_rule fX12_rule M N := by
  obtain ⟨n, nd, h1, h2, h3, h4, h5, h6, h7, h8, h9⟩ := h
  obtain ⟨k, hk, x1, x9, xb, xt⟩ := h3.signs
  have hg := GS_of xb
  obtain ⟨w, C, e1, c1, c2, c3, c4⟩ := c_other hk x1 xb
  -- the reference, over any class memory that keeps its rows
  have ref : ∀ M1 : zM, (∀ q, 36 ≤ q → q < 59 → M1.1 q = M.1 q) → M1.2 = M.2 → ∃ b R, fX12_readRule (zSI M1 36 12 0) = some (b, R) ∧ (∀ q, q ≠ 36 → R.1 q = M1.1 q) ∧ (∀ j, j ∉ [9, 12, 13, 14, 15, 16, 17, 22] → R.1 36 j = M.1 36 j) ∧ R.2.1 = M.2.1 ∧ (∀ j, j ≠ 13 → R.2.2 j = M.2.2 j) ∧ R.1 36 9 = 0 ∧ ((k = 0 ∧ ¬ b = 0) ∨ (0 < k ∧ rOK k (pAll (gT M (min k 40))) ∧ ¬ b = 0) ∨ (0 < k ∧ ¬ rOK k (pAll (gT M (min k 40))) ∧ b = 0 ∧ R.1 36 17 = nI (pAll (gT M (min k 40))).2.1)) := by
    intro M1 a1 a2
    obtain ⟨b, R, g1, g2, g3, g4⟩ := m_other (R0 := zSI M1 36 12 0) (g := gT M (min k 40)) hk (by rw [gSI, if_neg (by omega), a1 36 (by omega) (by omega)]; exact x9) hg (fun j hj => by
      rw [zSI_other _ _ _ (by decide), a1 41 (by omega) (by omega), xt j (by omega)]
      unfold gT; rw [if_pos hj])
    refine ⟨b, R, g1, fun q hq => by rw [g2.1 q hq, zSI_other _ _ _ hq], fun j hj => ?_, by rw [g2.2.2.1]; show M1.2.1 = _; rw [a2], fun j hj => by rw [g2.2.2.2 j hj]; show M1.2.2 j = _; rw [a2], g3, g4⟩
    simp at hj
    rw [g2.2.1 j (by simp; omega), gSI, if_neg (by omega), a1 36 (by omega) (by omega)]
  have m9 : ∀ M1 : zM, (∀ q, 36 ≤ q → q < 59 → M1.1 q = M.1 q) → (zSI M1 36 12 0).1 36 9 = nI k := fun M1 a1 => by rw [gSI, if_neg (by omega), a1 36 (by omega) (by omega)]; exact x9
  -- a new rule of l parts that comes to v
  have yes : w = -1 → ∀ l v, PartsAre C 17 l → (∀ e, rn e l [] = [v e]) → k ≤ 40 → (∀ M1 : zM, (∀ q, 36 ≤ q → q < 59 → M1.1 q = M.1 q) → M1.2 = M.2 → ∀ b R, fX12_readRule (zSI M1 36 12 0) = some (b, R) → ¬ b = 0) → (∀ Z : zM, (∀ j, j < k → Z.1 44 j = M.1 41 j) → RefR Z 44 k v) → OpS fX11_rule fX12_rule M N := by
    intro ew l v hp hv hk40 hb href
    obtain ⟨M1, b1, b2, b3, b4⟩ := p_ruleBecome hp
    have k1 : ∀ q, q ≠ 1 → q ≠ 13 → q ≠ 14 → q ≠ 17 → q ≠ 18 → q ≠ 21 → M1.1 q = M.1 q := fun q a b c d e f => by rw [b2 q b c, c1 q a d e f]
    have r1 : ∀ q, 36 ≤ q → q < 59 → M1.1 q = M.1 q := fun q a b => k1 q (by omega) (by omega) (by omega) (by omega) (by omega) (by omega)
    have r2 : M1.2 = M.2 := by rw [b3, c2]
    obtain ⟨b, R, g1, g2, g3, g4, g5, g6, -⟩ := ref M1 r1 r2
    have hb0 := hb M1 r1 r2 b R g1
    have R41 : ∀ j, R.1 41 j = M.1 41 j := fun j => by rw [g2 41 (by omega), r1 41 (by omega) (by omega)]
    obtain ⟨T, t0, t1, t2, t3⟩ := m_ruleL (M := R) (k := k) (a := 44) hk40 (Or.inl rfl) (by rw [g5 19 (by omega)]; exact h7.2.2.2.2.1) (fun j hj => ⟨_, by rw [R41, xt j hj]⟩)
    refine ⟨0, M1, zSI T 36 21 (nI k), ?_, ?_, ?_⟩
    · unfold fX11_rule
      rw [e1]
      simp only [Option.bind_some, zp]
      rw [if_pos (by rw [ew]; decide), b1]
      rfl
    · unfold fX12_rule
      simp only [zlet, m9 M1 r1, g1, Option.bind_some, zp, if_neg hb0, t0]
    · have sm : Sm [1, 13, 14, 17, 18, 21, 44] [9, 12, 13, 14, 15, 16, 17, 21, 22] M (zSI T 36 21 (nI k)) := by
        refine ⟨fun q q1 q2 => ?_, fun j hj => ?_, ?_, ?_⟩
        · simp at q2
          rw [zSI_other _ _ _ q1, t2 q (by omega), g2 q q1, k1 q (by omega) (by omega) (by omega) (by omega) (by omega) (by omega)]
        · simp at hj
          rw [gSI, if_neg (by omega), t2 36 (by omega), g3 j (by simp; omega)]
        · show T.2.2 19 = _; rw [t1, g5 19 (by omega)]
        · show T.2.2 20 = _; rw [t1, g5 20 (by omega)]
      have z1 : (zSI T 36 21 (nI k)).1 1 1 = 0 := by rw [zSI_other _ _ _ (by decide), t2 1 (by omega), g2 1 (by omega), b2 1 (by omega) (by omega)]; exact c3
      have z9 : (zSI T 36 21 (nI k)).1 36 9 = 0 := by rw [gSI, if_neg (by omega), t2 36 (by omega)]; exact g6
      have zr : T.2.1 = M.2.1 := by rw [t1, g4]
      refine ⟨n, nd, h1.sm sm rfl rfl, h2.sm sm rfl (by omega), RX.empty z1 z9, h4.of (sm.1 3 (by decide) (by decide)) (sm.2.1 11 (by decide)) (by show T.2.1 = _; rw [zr]), h5.sm sm rfl rfl, (h6.sm sm rfl rfl).up, h7.sm sm (by rw [sm.1 0 (by decide) (by decide)]) (by rw [sm.1 0 (by decide) (by decide)]) rfl, h8.sm sm rfl rfl, ?_⟩
      refine ⟨l, v, k, ?_, hv, by rw [gSI, if_pos ⟨rfl, rfl⟩], href _ (fun j hj => ?_)⟩
      · have q13 : (zSI T 36 21 (nI k)).1 13 = M1.1 13 := by rw [zSI_other _ _ _ (by decide), t2 13 (by omega), g2 13 (by omega)]
        have q14 : (zSI T 36 21 (nI k)).1 14 = M1.1 14 := by rw [zSI_other _ _ _ (by decide), t2 14 (by omega), g2 14 (by omega)]
        exact ⟨b4.1, by rw [q13]; exact b4.2.1, fun j x hj => by rw [q14]; exact b4.2.2 j x hj⟩
      · rw [zSI_other _ _ _ (by decide), t3 j hj, R41]
  rcases c4 with ⟨z0, ew, hp⟩ | ⟨z0, ok, ew, hp⟩ | ⟨z0, no, ew⟩
  · subst z0
    refine yes ew plainL pv hp plain_rn (by omega) (fun M1 a1 a2 b R e => ?_) (fun Z _ => Or.inl ⟨rfl, rfl⟩)
    obtain ⟨b', R', g1, -, -, -, -, -, g7⟩ := ref M1 a1 a2
    rw [e] at g1
    obtain ⟨rfl, -⟩ := Prod.mk.inj (Option.some.inj g1)
    rcases g7 with ⟨-, q⟩ | ⟨q, -⟩ | ⟨q, -⟩
    · exact q
    · omega
    · omega
  · have pk := pAll_ok hg
    have k40 : k ≤ 40 := by have := pk.2.1; have := ok.2; omega
    refine yes ew _ (pAll (gT M (min k 40))).2.2.2 hp (fun e => pk.2.2.2 ok.1 e []) k40 (fun M1 a1 a2 b R e => ?_) (fun Z hZ => Or.inr ⟨by omega, k40, gT M (min k 40), ?_, fun j hj => ?_, ok.1, rfl⟩)
    · obtain ⟨b', R', g1, -, -, -, -, -, g7⟩ := ref M1 a1 a2
      rw [e] at g1
      obtain ⟨rfl, -⟩ := Prod.mk.inj (Option.some.inj g1)
      rcases g7 with ⟨q, -⟩ | ⟨-, -, q⟩ | ⟨-, q, -⟩
      · omega
      · exact q
      · exact absurd ok q
    · have := hg
      rw [show min k 40 = k by omega] at this ⊢
      exact this
    · rw [hZ j hj, xt j hj]
      unfold gT
      rw [if_pos (by omega)]
  · have k1 : ∀ q, 36 ≤ q → q < 59 → C.1 q = M.1 q := fun q a b => c1 q (by omega) (by omega) (by omega) (by omega)
    obtain ⟨b, R, g1, g2, g3, g4, g5, g6, g7⟩ := ref C k1 c2
    have pk := pAll_ok hg
    have g8 : b = 0 ∧ R.1 36 17 = nI (pAll (gT M (min k 40))).2.1 := by
      rcases g7 with ⟨q, -⟩ | ⟨-, q, -⟩ | ⟨-, -, q⟩
      · omega
      · exact absurd q no
      · exact q
    generalize pAll (gT M (min k 40)) = r at ew g8 pk
    have p40 : r.2.1 < 2 ^ 31 := by have := pk.2.1; omega
    refine ⟨-1 - nI r.2.1, C, R, ?_, ?_, ?_⟩
    · unfold fX11_rule
      rw [e1]
      simp only [Option.bind_some, zp]
      rw [ew, if_neg (nI_nneg p40)]
    · unfold fX12_rule
      simp only [zlet, g1, Option.bind_some, zp, if_pos g8.1, g8.2]
    · have sm : Sm [1, 17, 18, 21] [9, 12, 13, 14, 15, 16, 17, 22] M R := by
        refine ⟨fun q q1 q2 => ?_, fun j hj => g3 j hj, g5 19 (by omega), g5 20 (by omega)⟩
        simp at q2
        rw [g2 q q1, c1 q (by omega) (by omega) (by omega) (by omega)]
      exact ⟨n, nd, h1.sm sm rfl rfl, h2.sm sm rfl (by omega), RX.empty (by rw [g2 1 (by omega)]; exact c3) g6, h4.of (sm.1 3 (by decide) (by decide)) (sm.2.1 11 (by decide)) g4, h5.sm sm rfl rfl, (h6.sm sm rfl rfl).up, h7.sm sm (by rw [sm.1 0 (by decide) (by decide)]) (by rw [sm.1 0 (by decide) (by decide)]) rfl, h8.sm sm rfl rfl, h9.sm sm rfl rfl⟩
