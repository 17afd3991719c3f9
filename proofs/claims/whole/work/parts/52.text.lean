/-! sign, end -/
def by8 (x : Int32) (q : Nat) : Nat := x.toBitVec.toNat / 2 ^ (8 * q) % 256
theorem by8_lt (x : Int32) (q : Nat) : by8 x q < 256 := Nat.mod_lt _ (by omega)
theorem by8_s : ∀ q, q < 4 → (((nI (8 * q)).toUInt32 &&& Int32.toUInt32 31).toBitVec % 32).toNat = 8 * q := by decide +kernel
theorem by8_C (x : Int32) {q : Nat} (hq : q < 4) : zushr x (nI (8 * q)) &&& 255 = nI (by8 x q) := by
  rw [pk_and _ 8 (by decide)]
  unfold zushr by8
  rw [pk_ushr x _ (8 * q) (by8_s q hq)]
theorem toInt8_congr {x y : Int32} (h : ∀ i, i < 8 → bt x i = bt y i) : x.toInt8 = y.toInt8 := by
  apply Int8.toBitVec_inj.mp
  rw [Int32.toBitVec_toInt8, Int32.toBitVec_toInt8]
  apply BitVec.eq_of_getLsbD_eq
  intro i hi
  rw [BitVec.getLsbD_signExtend, BitVec.getLsbD_signExtend]
  have := h i hi
  unfold bt at this
  rw [if_pos (show i < 32 by omega), if_pos (show i < 32 by omega), this]
theorem nar_byte (z : Int32) : vp_nar .byte z.toInt8.toInt32 = z.toInt8.toInt32 := by
  unfold vp_nar
  rw [pk_nb]
theorem b255 : ∀ i, i < 8 → bt 255 i = true := by decide +kernel
theorem by8_M (x : Int32) {q : Nat} (hq : q < 4) : vp_nar .byte ((zshr x (8 * nI q)).toInt8.toInt32) = (nI (by8 x q)).toInt8.toInt32 := by
  rw [nar_byte, ← by8_C x hq, show (8 : Int32) * nI q = nI (8 * q) from pk_mul 8 q]
  refine congrArg Int8.toInt32 (toInt8_congr (fun i hi => ?_))
  rw [b_and, b255 i hi, Bool.and_true]
  unfold zshr zushr
  rw [b_sshr (8 * q) (by omega) x (by omega), b_ushr (8 * q) (by omega) x i, if_pos (by omega)]
def apC (x : Int32) (M : zM) (k : Nat) : Nat → zM
  | 0 => M
  | i + 1 => zSI (zSI (apC x M k i) 2 (k + i) (nI (by8 x (3 - i)))) 1 1 (nI (k + i + 1))
def apM (x : Int32) (M : zM) (k : Nat) : Nat → zM
  | 0 => M
  | i + 1 => zSI (zSI (apM x M k i) 36 9 (nI (k + i + 1))) 41 (k + i) ((nI (by8 x (3 - i))).toInt8.toInt32)
theorem apC_spec (x : Int32) (M : zM) (k : Nat) (h : M.1 1 1 = nI k) : ∀ i, (apC x M k i).1 1 1 = nI (k + i) ∧ Sm [1, 2] [] M (apC x M k i) ∧ (apC x M k i).2 = M.2 ∧ (∀ j, j < k → (apC x M k i).1 2 j = M.1 2 j) ∧ ∀ q, q < i → (apC x M k i).1 2 (k + q) = nI (by8 x (3 - q))
  | 0 => ⟨h, Sm.refl M, rfl, fun _ _ => rfl, fun q hq => absurd hq (by omega)⟩
  | i + 1 => by
    obtain ⟨h1, h2, h3, h4, h5⟩ := apC_spec x M k h i
    have e2 : ∀ j, (apC x M k (i + 1)).1 2 j = if j = k + i then nI (by8 x (3 - i)) else (apC x M k i).1 2 j := fun j => by
      show (zSI (zSI (apC x M k i) 2 (k + i) (nI (by8 x (3 - i)))) 1 1 (nI (k + i + 1))).1 2 j = _
      rw [gSI, if_neg (by omega), gSI]
      by_cases c : j = k + i
      · rw [if_pos ⟨rfl, c⟩, if_pos c]
      · rw [if_neg (fun z => c z.2), if_neg c]
    refine ⟨?_, (h2.trans (Sm.SI _ _ _ (by decide) (by simp))).trans (Sm.SI _ _ _ (by decide) (by simp)), h3, fun j hj => ?_, fun q hq => ?_⟩
    · show (zSI _ 1 1 _).1 1 1 = _
      rw [gSI, if_pos ⟨rfl, rfl⟩]; rfl
    · rw [e2, if_neg (by omega)]; exact h4 j hj
    · rw [e2]
      by_cases c : q = i
      · subst c; rw [if_pos rfl]
      · rw [if_neg (by omega)]; exact h5 q (by omega)
theorem apM_spec (x : Int32) (M : zM) (k : Nat) (h : M.1 36 9 = nI k) : ∀ i, (apM x M k i).1 36 9 = nI (k + i) ∧ Sm [41] [9] M (apM x M k i) ∧ (apM x M k i).2 = M.2 ∧ (∀ j, j < k → (apM x M k i).1 41 j = M.1 41 j) ∧ ∀ q, q < i → (apM x M k i).1 41 (k + q) = (nI (by8 x (3 - q))).toInt8.toInt32
  | 0 => ⟨h, Sm.refl M, rfl, fun _ _ => rfl, fun q hq => absurd hq (by omega)⟩
  | i + 1 => by
    obtain ⟨h1, h2, h3, h4, h5⟩ := apM_spec x M k h i
    have e2 : ∀ j, (apM x M k (i + 1)).1 41 j = if j = k + i then (nI (by8 x (3 - i))).toInt8.toInt32 else (apM x M k i).1 41 j := fun j => by
      show (zSI (zSI (apM x M k i) 36 9 (nI (k + i + 1))) 41 (k + i) ((nI (by8 x (3 - i))).toInt8.toInt32)).1 41 j = _
      rw [gSI]
      by_cases c : j = k + i
      · rw [if_pos ⟨rfl, c⟩, if_pos c]
      · rw [if_neg (fun z => c z.2), if_neg c, gSI, if_neg (by omega)]
    refine ⟨?_, (h2.trans (Sm.SI6 _ _ (by simp))).trans (Sm.SI _ _ _ (by decide) (by simp)), h3, fun j hj => ?_, fun q hq => ?_⟩
    · show (zSI (zSI _ 36 9 _) 41 _ _).1 36 9 = _
      rw [gSI, if_neg (by omega), gSI, if_pos ⟨rfl, rfl⟩]; rfl
    · rw [e2, if_neg (by omega)]; exact h4 j hj
    · rw [e2]
      by_cases c : q = i
      · subst c; rw [if_pos rfl]
      · rw [if_neg (by omega)]; exact h5 q (by omega)
theorem sh_C : ∀ i, i < 4 → nI (8 * (4 - i)) + (-8) = nI (8 * (3 - i)) := by decide +kernel
theorem sh_C2 : ∀ i, i < 4 → nI (8 * (3 - i)) + (-8) = nI (8 * (4 - (i + 1))) + (-8) := by decide +kernel
theorem sh_M : ∀ i, i < 4 → nI (4 - i) + (-1) = nI (3 - i) := by decide +kernel
theorem sh_M2 : ∀ i, i < 4 → nI (3 - i) + (-1) = nI (4 - (i + 1)) + (-1) := by decide +kernel
theorem p_append {x : Int32} {M : zM} {k : Nat} (h : M.1 1 1 = nI k) (hk : k + 4 ≤ 80) : fX9_append x M = some (nI (k + 4), apC x M k 4) := by
  unfold fX9_append
  rw [show fX9_append_L3 x 4000 24 M = some (apC x M k 4) from zfor (fun n (s : Int32 × zM) => fX9_append_L3 x n s.1 s.2) (fun i => (nI (8 * (4 - i)) + (-8), apC x M k i)) 4 _
    (fun n i hi => by
      have e := (apC_spec x M k h i).1
      have e1 : (zSI (apC x M k i) 2 (k + i) (nI (by8 x (3 - i)))).1 1 1 = nI (k + i) := by rw [zSI_other _ _ _ (by decide)]; exact e
      simp only [sh_C i hi]
      simp only [fX9_append_L3, if_neg (nI_nneg (show 8 * (3 - i) < 2 ^ 31 by omega)), e, if_neg (show ¬ 80 ≤ nI (k + i) from leF (a := 80) (by omega) (by omega)), if_pos (zinT (show k + i < 80 by omega) (by omega)), nI_clamp (show k + i < 2 ^ 31 by omega), zlet, by8_C x (show 3 - i < 4 by omega), e1, nI_1, sh_C2 i hi]
      rfl)
    (fun n => by
      show fX9_append_L3 x (n + 1) (nI (8 * (4 - 4)) + (-8)) (apC x M k 4) = _
      simp only [fX9_append_L3, if_pos (show nI (8 * (4 - 4)) + (-8) < 0 by decide)])
    4 0 4000 rfl (by omega)]
  show some ((apC x M k 4).1 1 1, _) = _
  rw [(apC_spec x M k h 4).1]
theorem p_sign {x : Int32} {M : zM} {k : Nat} (h : M.1 36 9 = nI k) (hk : k + 4 ≤ 80) : fX12_sign_L20 x 4000 3 M = some (apM x M k 4) :=
  zfor (fun n (s : Int32 × zM) => fX12_sign_L20 x n s.1 s.2) (fun i => (nI (4 - i) + (-1), apM x M k i)) 4 _
    (fun n i hi => by
      have e := (apM_spec x M k h i).1
      simp only [sh_M i hi]
      simp only [fX12_sign_L20, if_neg (nI_nneg (show 3 - i < 2 ^ 31 by omega)), e, if_pos (zinT (show k + i < 80 by omega) (by omega)), nI_clamp (show k + i < 2 ^ 31 by omega), zlet, by8_M x (show 3 - i < 4 by omega), nI_1, sh_M2 i hi]
      rfl)
    (fun n => by
      show fX12_sign_L20 x (n + 1) (nI (4 - 4) + (-1)) (apM x M k 4) = _
      simp only [fX12_sign_L20, if_pos (show nI (4 - 4) + (-1) < 0 by decide)])
    4 0 4000 rfl (by omega)
theorem op_sign {M : zM} {N : Nat} (h : RAll M N) (x : Int32) : OpS (fX11_sign x) (fX12_sign x) M N := by
  have h0 := h
  obtain ⟨n, nd, h1, h2, h3, h4, h5, h6, h7, h8, h9⟩ := h
  obtain ⟨k, a1, a2, a3, a4⟩ := h3
  rcases Nat.lt_or_ge 80 (k + 4) with hk | hk
  · refine opN (r := -1) h0 ?_ ?_
    · unfold fX11_sign
      rw [if_pos]
      unfold fX9_hasRoomForFour
      rw [a2, show nI k + 4 = nI (k + 4) from nI_add k 4, if_pos (show 80 < nI (k + 4) from ltT (a := 80) hk (by omega))]
    · have e : (zSI M 36 12 0).1 36 9 = nI k := by rw [gSI, if_neg (by omega)]; exact a3
      simp only [fX12_sign, zlet, e]
      rw [show nI k + 4 = nI (k + 4) from nI_add k 4, if_neg (show ¬ nI (k + 4) ≤ 80 from leF (b := 80) hk (by omega))]
  · obtain ⟨c1, c2, c3, c4, c5⟩ := apC_spec x M k a2 4
    generalize hM1 : apC x M k 4 = M1 at c1 c2 c3 c4 c5
    have e9 : (zSI M1 36 12 0).1 36 9 = nI k := by rw [gSI, if_neg (by omega), c2.2.1 9 (by decide)]; exact a3
    obtain ⟨m1, m2, m3, m4, m5⟩ := apM_spec x (zSI M1 36 12 0) k e9 4
    generalize hM2 : apM x (zSI M1 36 12 0) k 4 = M2 at m1 m2 m3 m4 m5
    refine ⟨nI (k + 4), M1, M2, ?_, ?_, ?_⟩
    · unfold fX11_sign
      rw [if_neg]
      · rw [p_append a2 hk, hM1]; rfl
      · unfold fX9_hasRoomForFour
        rw [a2, show nI k + 4 = nI (k + 4) from nI_add k 4, if_neg (show ¬ 80 < nI (k + 4) from ltF (b := k + 4) (a := 80) hk (by omega))]
        decide
    · simp only [fX12_sign, zlet, e9]
      rw [show nI k + 4 = nI (k + 4) from nI_add k 4, if_pos (show nI (k + 4) ≤ 80 from leT (b := 80) hk (by omega)), p_sign e9 hk, hM2]
      simp only [Option.bind_some, m1]
    · have s1 : Sm [1, 2, 41] [9, 12] M M1 := ⟨fun a b c => c2.1 a b (fun z => c (by simp at z ⊢; omega)), fun j _ => c2.2.1 j (by simp), c2.2.2⟩
      have s2 : Sm [1, 2, 41] [9, 12] (zSI M1 36 12 0) M2 := ⟨fun a b c => m2.1 a b (fun z => c (by simp at z ⊢; omega)), fun j c => m2.2.1 j (fun z => c (by simp at z ⊢; omega)), m2.2.2⟩
      have sm : Sm [1, 2, 41] [9, 12] M M2 := (s1.trans (Sm.SI6 _ _ (by simp))).trans s2
      have r2 : M2.2 = M.2 := m3.trans c3
      refine ⟨n, nd, h1.sm sm rfl rfl, h2.sm sm rfl (by omega), ?_, h4.of (sm.1 3 (by decide) (by decide)) (sm.2.1 11 (by decide)) (by rw [r2]), h5.sm sm rfl rfl, (h6.sm sm rfl rfl).up, h7.sm sm (by rw [sm.1 0 (by decide) (by decide)]) (by rw [sm.1 0 (by decide) (by decide)]) rfl, h8.sm sm rfl rfl, h9.sm sm rfl rfl⟩
      have q1 : ∀ a, a ≠ 41 → a ≠ 36 → M2.1 a = M1.1 a := fun a b c => by
        rw [m2.1 a c (by simp; exact b), zSI_other _ _ _ c]
      refine ⟨k + 4, hk, by rw [q1 1 (by decide) (by decide)]; exact c1, m1, fun j hj => ?_⟩
      rw [q1 2 (by decide) (by decide)]
      rcases Nat.lt_or_ge j k with hj2 | hj2
      · rw [c4 j hj2, m4 j hj2, zSI_other _ _ _ (by decide), c2.1 41 (by decide) (by decide)]
        exact a4 j hj2
      · obtain ⟨q, rfl⟩ : ∃ q, j = k + q := ⟨j - k, by omega⟩
        rw [c5 q (by omega), m5 q (by omega)]
        exact ⟨_, by8_lt _ _, rfl, rfl⟩
theorem op_end {M : zM} {N : Nat} (h : RAll M N) (x : Int32) : OpS (fun M => some (fX11_end x M)) (fun M => some (fX12_end x M)) M N := by
  have h0 := h
  obtain ⟨n, nd, h1, h2, h3, h4, h5, h6, h7, h8, h9⟩ := h
  obtain ⟨k, a1, a2, a3, a4⟩ := h3
  rcases split_ix x (n := k + 1) (by omega) with q | ⟨t, ht, rfl⟩
  · refine opN (r := 0) h0 ?_ ?_
    · have e : fX9_cutTo x M = (0, M) := by
        unfold fX9_cutTo
        by_cases c : x < 0
        · rw [if_pos c]
        · rw [if_neg c, a2, if_neg]
          intro z
          rcases q with q | q
          · exact c q
          · rw [Int32.le_iff_toInt_le] at q z
            rw [nI_toInt (by omega)] at q z
            omega
      simp only [fX11_end, e, zlet]
    · have e : (zSI M 36 12 0).1 36 9 = nI k := by rw [gSI, if_neg (by omega)]; exact a3
      have e2 : fX12_in x 0 (nI k) = 0 := by
        have := in0 (n := k + 1) (by omega) q
        rw [nI_pred] at this
        exact this
      simp only [fX12_end, zlet, e, e2, if_true]
  · refine ⟨1, zSI M 1 1 (nI t), zSI (zSI (zSI M 1 1 (nI t)) 36 12 0) 36 9 (nI t), ?_, ?_, ?_⟩
    · have e : fX9_cutTo (nI t) M = (1, zSI M 1 1 (nI t)) := by
        unfold fX9_cutTo
        rw [if_neg (nI_nneg (by omega)), a2, if_pos (leT (show t ≤ k by omega) (by omega))]; rfl
      simp only [fX11_end, e, zlet]
    · have e : (zSI (zSI M 1 1 (nI t)) 36 12 0).1 36 9 = nI k := by rw [gSI, if_neg (by omega), zSI_other _ _ _ (by decide)]; exact a3
      have e2 : fX12_in (nI t) 0 (nI k) = 1 := by
        have := in1 (n := k + 1) (by omega) ht
        rw [nI_pred] at this
        exact this
      simp only [fX12_end, zlet, e, e2, show ¬ (1 : Int32) = 0 by decide, if_false]
    · have sm : Sm [1] [9, 12] M (zSI (zSI (zSI M 1 1 (nI t)) 36 12 0) 36 9 (nI t)) := ((Sm.SI M _ _ (by decide) (by simp)).trans (Sm.SI6 _ _ (by simp))).trans (Sm.SI6 _ _ (by simp))
      refine ⟨n, nd, h1.sm sm rfl rfl, h2.sm sm rfl (by omega), ?_, h4.of rfl rfl rfl, h5.sm sm rfl rfl, (h6.sm sm rfl rfl).up, h7.sm sm rfl rfl rfl, h8.sm sm rfl rfl, h9.sm sm rfl rfl⟩
      refine ⟨t, by omega, rfl, rfl, fun j hj => a4 j (by omega)⟩
