/-! the reference reads signs, of whatever kind -/
def GT (g : Nat → Int32) (S : Nat) : Prop := (∀ j, S ≤ j → g j = -1) ∧ ∀ j, j < S → ∃ b : Nat, b < 256 ∧ g j = nI b
def wO : Option Nat → Int32
  | none => -1
  | some q => nI q
def TSt (g : Nat → Int32) (k most : Nat) (R : zM) (p : Nat) (w : Option Nat) : Prop := (R.1 36 14 = nI k ∧ R.1 36 15 = nI most ∧ R.1 36 16 = nI p ∧ R.1 36 17 = wO w) ∧ (R.2.2 13 = some 41 ∧ ∀ j, j < min k most → R.1 41 j = (g j).toInt8.toInt32) ∧ k ≤ 80 ∧ most ≤ 80 ∧ p ≤ k ∧ ∀ q, w = some q → q ≤ 80
section TS
variable {g : Nat → Int32} {k most p : Nat} {R : zM} {w : Option Nat}
theorem TSt.other {N : zM} (h : TSt g k most R p w) (h36 : ∀ j, 14 ≤ j → j ≤ 17 → N.1 36 j = R.1 36 j) (h41 : N.1 41 = R.1 41) (h13 : N.2.2 13 = R.2.2 13) : TSt g k most N p w := by
  obtain ⟨⟨a1, a2, a3, a4⟩, ⟨b1, b2⟩, c⟩ := h
  exact ⟨⟨by rw [h36 14 (by omega) (by omega)]; exact a1, by rw [h36 15 (by omega) (by omega)]; exact a2, by rw [h36 16 (by omega) (by omega)]; exact a3, by rw [h36 17 (by omega) (by omega)]; exact a4⟩, ⟨h13.trans b1, fun j hj => by rw [h41]; exact b2 j hj⟩, c⟩
theorem TSt.SI {q j : Nat} (h : TSt g k most R p w) (hq : q ≠ 36 ∧ q ≠ 41) (x : Int32) : TSt g k most (zSI R q j x) p w := h.other (fun i _ _ => by rw [zSI_other _ _ _ (Ne.symm hq.1)]) (by rw [zSI_other _ _ _ (Ne.symm hq.2)]) rfl
theorem TSt.SJ {q j : Nat} (h : TSt g k most R p w) (x : Int64) : TSt g k most (zSJ R q j x) p w := h.other (fun _ _ _ => rfl) rfl rfl
theorem TSt.adv (h : TSt g k most R p none) (hp : p < k) : TSt g k most (zSI R 36 16 (nI (p + 1))) (p + 1) none := by
  obtain ⟨⟨a1, a2, a3, a4⟩, ⟨b1, b2⟩, c1, c2, c3, c4⟩ := h
  exact ⟨⟨by rw [gSI, if_neg (by omega)]; exact a1, by rw [gSI, if_neg (by omega)]; exact a2, by rw [gSI, if_pos ⟨rfl, rfl⟩], by rw [gSI, if_neg (by omega)]; exact a4⟩, ⟨b1, fun j hj => by rw [zSI_other _ _ _ (by decide)]; exact b2 j hj⟩, c1, c2, by omega, fun q hq => by cases hq⟩
theorem TSt.flt (h : TSt g k most R p none) : TSt g k most (zSI R 36 17 (nI p)) p (some p) := by
  obtain ⟨⟨a1, a2, a3, a4⟩, ⟨b1, b2⟩, c1, c2, c3, c4⟩ := h
  exact ⟨⟨by rw [gSI, if_neg (by omega)]; exact a1, by rw [gSI, if_neg (by omega)]; exact a2, by rw [gSI, if_neg (by omega)]; exact a3, by rw [gSI, if_pos ⟨rfl, rfl⟩]; rfl⟩, ⟨b1, fun j hj => by rw [zSI_other _ _ _ (by decide)]; exact b2 j hj⟩, c1, c2, c3, fun q hq => by cases hq; omega⟩
theorem t_fine1 (h : TSt g k most R p none) : fX12_fine R = 1 := by
  unfold fX12_fine
  rw [h.1.2.2.2, if_pos (show wO none = -1 from rfl)]
theorem t_fine0 {q : Nat} (h : TSt g k most R p (some q)) : fX12_fine R = 0 := by
  unfold fX12_fine
  have := h.2.2.2.2.2 q rfl
  rw [h.1.2.2.2, if_neg (fun z => nI_ne_m1 (show q < 2 ^ 31 by omega) z.symm)]
theorem t_here (hg : GT g (min k most)) (h : TSt g k most R p w) : fX12_here R = some (g p) := by
  obtain ⟨⟨a1, a2, a3, a4⟩, ⟨b1, b2⟩, c1, c2, c3, c4⟩ := h
  unfold fX12_here
  rw [a1, a2, a3]
  by_cases h1 : k ≤ p
  · rw [if_pos (leT h1 (by omega)), hg.1 p (by omega)]
  · rw [if_neg (leF (by omega) (by omega))]
    by_cases h2 : most ≤ p
    · rw [if_pos (leT h2 (by omega)), hg.1 p (by omega)]
    · obtain ⟨b, hb, e⟩ := hg.2 p (by omega)
      rw [if_neg (leF (by omega) (by omega)), b1]
      simp only [Option.bind_some]
      rw [if_pos (show zSH 41 = .inr (3, zLen 41) from rfl), if_pos (show zin (nI p) (zLen 41) from zinT (show p < 80 by omega) (by omega)), nI_clamp (by omega), b2 p (by omega), e, b_and255 b hb]
theorem t_fault1 (h : TSt g k most R p none) (x : Int32) : fX12_fault x R = zSI R 36 17 x := by
  unfold fX12_fault
  rw [t_fine1 h, if_neg (by decide)]; rfl
theorem t_fault0 {q : Nat} (h : TSt g k most R p (some q)) (x : Int32) : fX12_fault x R = R := by
  unfold fX12_fault
  rw [t_fine0 h, if_pos rfl]
theorem t_passes0 {q : Nat} (h : TSt g k most R p (some q)) (c : Int32) : fX12_passes c R = some (0, R) := by
  unfold fX12_passes
  rw [t_fine0 h, if_pos rfl]
theorem t_passes (hg : GT g (min k most)) (h : TSt g k most R p none) (c : Int32) : fX12_passes c R = if g p = c then some (1, zSI R 36 16 (nI (p + 1))) else some (0, R) := by
  unfold fX12_passes
  rw [t_fine1 h, if_neg (by decide), t_here hg h]
  simp only [Option.bind_some, zlet, h.1.2.2.1, nI_1]
theorem t_one0 {q : Nat} (h : TSt g k most R p (some q)) (a b : Int32) : fX12_oneOf a b R = some (0, R) := by
  unfold fX12_oneOf
  rw [t_fine0 h, if_pos rfl]
theorem in_nI {b lo hi : Nat} (hb : b < 1000) (h1 : lo < 1000) (h2 : hi < 1000) : fX12_in (nI b) (nI lo) (nI hi) = if lo ≤ b ∧ b ≤ hi then 1 else 0 := by
  unfold fX12_in
  by_cases c1 : lo ≤ b
  · rw [if_neg (ltF c1 (by omega))]
    by_cases c2 : b ≤ hi
    · rw [if_neg (ltF c2 (by omega)), if_pos ⟨c1, c2⟩]
    · rw [if_pos (ltT (by omega) (by omega)), if_neg (by omega)]
  · rw [if_pos (ltT (by omega) (by omega)), if_neg (by omega)]
theorem in_m1 {lo hi : Nat} (h1 : lo < 1000) : fX12_in (-1) (nI lo) (nI hi) = 0 := by
  unfold fX12_in
  rw [if_pos]
  rw [Int32.lt_iff_toInt_lt, nI_toInt (by omega)]
  have : (-1 : Int32).toInt = -1 := by decide
  omega
theorem int8_small : ∀ b, b < 128 → (nI b).toInt8.toInt32 = nI b := by decide +kernel
/-- is a sign of the first..last -/
def sIn (x : Int32) (lo hi : Nat) : Bool := !decide (x < nI lo) && !decide (nI hi < x)
theorem sIn_nI {b lo hi : Nat} (hb : b < 1000) (h1 : lo < 1000) (h2 : hi < 1000) : sIn (nI b) lo hi = decide (lo ≤ b ∧ b ≤ hi) := by
  unfold sIn
  by_cases c1 : lo ≤ b
  · by_cases c2 : b ≤ hi
    · simp [ltF c1 (show b < 2 ^ 31 by omega), ltF c2 (show hi < 2 ^ 31 by omega), c1, c2]
    · simp [ltT (show hi < b by omega) (show b < 2 ^ 31 by omega), c2]
  · simp [ltT (show b < lo by omega) (show lo < 2 ^ 31 by omega), c1]
theorem sIn_m1 {lo hi : Nat} (h1 : lo < 1000) : sIn (-1) lo hi = false := by
  unfold sIn
  have : (-1 : Int32) < nI lo := by
    rw [Int32.lt_iff_toInt_lt, nI_toInt (by omega)]
    have : (-1 : Int32).toInt = -1 := by decide
    omega
  simp [this]
theorem in_sIn (x : Int32) (lo hi : Nat) : fX12_in x (nI lo) (nI hi) = if sIn x lo hi = true then 1 else 0 := by
  unfold fX12_in sIn
  by_cases c1 : x < nI lo
  · simp [c1]
  · by_cases c2 : nI hi < x
    · simp [c1, c2]
    · simp [c1, c2]
theorem GT.sIn {S : Nat} (hg : GT g S) {lo hi : Nat} (h1 : lo < 1000) (h2 : hi < 1000) (h : sIn (g p) lo hi = true) : p < S ∧ ∃ b, b < 256 ∧ lo ≤ b ∧ b ≤ hi ∧ g p = nI b := by
  rcases Nat.lt_or_ge p S with hp | hp
  · obtain ⟨b, hb, e⟩ := hg.2 p hp
    rw [e, sIn_nI (by omega) h1 h2] at h
    have := of_decide_eq_true h
    exact ⟨hp, b, hb, this.1, this.2, e⟩
  · rw [hg.1 p hp, sIn_m1 h1] at h
    cases h
theorem t_one1 (hg : GT g (min k most)) (h : TSt g k most R p none) {f m : Nat} (hf : 0 < f) (hm : f + m ≤ 128) (h0 : 0 < m) (hs : sIn (g p) f (f + m - 1) = true) : fX12_oneOf (nI f) (nI m) R = some (g p - nI f, zSI R 36 16 (nI (p + 1))) := by
  obtain ⟨hp, b, hb, b1, b2, e⟩ := hg.sIn (p := p) (by omega) (by omega) hs
  have h0' := h
  obtain ⟨⟨a1, a2, a3, a4⟩, ⟨d1, d2⟩, c1, c2, c3, c4⟩ := h
  have em : nI f + nI m - 1 = nI (f + m - 1) := by
    rw [nI_add, show f + m = (f + m - 1) + 1 by omega, nI_pred]
    congr 1
  have e16 : (zSI R 36 16 (nI (p + 1))).1 36 16 - 1 = nI p := by rw [gSI, if_pos ⟨rfl, rfl⟩, nI_pred]
  unfold fX12_oneOf
  rw [t_fine1 h0', if_neg (by decide), t_here hg h0']
  simp only [Option.bind_some]
  rw [em, in_sIn, if_pos hs, if_neg (by decide), a3, nI_1]
  simp only [zlet, e16]
  rw [show (zSI R 36 16 (nI (p + 1))).2.2 13 = some 41 from d1]
  simp only [Option.bind_some]
  rw [if_pos (show zSH 41 = .inr (3, zLen 41) from rfl), if_pos (show zin (nI p) (zLen 41) from zinT (show p < 80 by omega) (by omega)), nI_clamp (by omega), zSI_other _ _ _ (by decide), d2 p hp, e, int8_small b (by omega)]
theorem t_oneF (hg : GT g (min k most)) (h : TSt g k most R p none) {f m : Nat} (hm : f + m ≤ 128) (h0 : 0 < m) (hs : sIn (g p) f (f + m - 1) = false) : fX12_oneOf (nI f) (nI m) R = some (0, zSI R 36 17 (nI p)) := by
  have em : nI f + nI m - 1 = nI (f + m - 1) := by
    rw [nI_add, show f + m = (f + m - 1) + 1 by omega, nI_pred]
    congr 1
  unfold fX12_oneOf
  rw [t_fine1 h, if_neg (by decide), t_here hg h]
  simp only [Option.bind_some]
  rw [em, in_sIn, hs, if_pos (show (if false = true then (1 : Int32) else 0) = 0 by decide), t_fault1 h, h.1.2.2.1]
  rfl
/-- was it right to the end? -/
theorem t_right0 {q : Nat} (h : TSt g k most R p (some q)) : fX12_wasRight R = (0, R) := by
  unfold fX12_wasRight
  rw [t_fault0 h]
  have : (if R.1 36 14 ≤ R.1 36 16 then R else zlet R fun M16 => M16) = R := by split <;> rfl
  rw [this]
  show (fX12_fine R, R) = _
  rw [t_fine0 h]
theorem t_rightK (h : TSt g k most R p none) (hp : p = k) : fX12_wasRight R = (1, R) := by
  unfold fX12_wasRight
  rw [h.1.1, h.1.2.2.1, if_pos (leT (show k ≤ p by omega) (by have := h.2.2.1; omega))]
  show (fX12_fine R, R) = _
  rw [t_fine1 h]
theorem t_rightF (h : TSt g k most R p none) (hp : p < k) : fX12_wasRight R = (0, zSI R 36 17 (nI p)) := by
  have hk := h.2.2.1
  unfold fX12_wasRight
  rw [h.1.1, h.1.2.2.1, if_neg (leF hp (by omega)), t_fault1 h]
  show (fX12_fine (zSI R 36 17 (nI p)), zSI R 36 17 (nI p)) = _
  rw [t_fine0 h.flt]
end TS
/-- a memory of the reference where the reading of THE TEXT begins -/
theorem t_begin {M R0 : zM} {k most : Nat} (hk : k ≤ 80) (hm : most ≤ 80) (h9 : R0.1 36 9 = nI k) (ht : ∀ j, j < k → R0.1 41 j = (M.1 2 j).toInt8.toInt32) : ∃ R, fX12_beginText (nI most) R0 = R ∧ TSt (gT M (min k most)) k most R 0 none ∧ (∀ q, q ≠ 36 → R.1 q = R0.1 q) ∧ (∀ j, j ∉ [9, 13, 14, 15, 16, 17] → R.1 36 j = R0.1 36 j) ∧ R.2.1 = R0.2.1 ∧ (∀ j, j ≠ 13 → R.2.2 j = R0.2.2 j) ∧ R.1 36 9 = 0 := by
  obtain ⟨R, e, t1, t2, t3, t4, t5, t6, t7, t8, t9, t10⟩ := m_bt (M := R0) (most := most) h9
  refine ⟨R, e, ⟨⟨t6, t7, t8, t9⟩, ⟨t10, fun j hj => ?_⟩, hk, hm, Nat.zero_le k, fun q hq => by cases hq⟩, t1, t2, t3, t4, t5⟩
  rw [t1 41 (by decide), ht j (by omega)]
  unfold gT
  rw [if_pos hj]
theorem GT_of {M : zM} {k most : Nat} (hb : ∀ j, j < k → ∃ b : Nat, b < 256 ∧ M.1 2 j = nI b) : GT (gT M (min k most)) (min k most) := by
  refine ⟨fun j hj => by unfold gT; rw [if_neg (by omega)], fun j hj => ?_⟩
  obtain ⟨b, h1, h2⟩ := hb j (by omega)
  exact ⟨b, h1, by unfold gT; rw [if_pos hj]; exact h2⟩
/-- the first place where P fails -/
theorem exD (P : Nat → Bool) : ∀ k, ∃ D, D ≤ k ∧ (∀ j, j < D → P j = true) ∧ (D < k → P D = false)
  | 0 => ⟨0, Nat.le_refl 0, fun j hj => absurd hj (by omega), fun h => absurd h (by omega)⟩
  | k + 1 => by
    obtain ⟨D, h1, h2, h3⟩ := exD P k
    rcases Nat.lt_or_ge D k with h | h
    · exact ⟨D, by omega, h2, fun _ => h3 h⟩
    · have : D = k := by omega
      subst this
      cases hP : P D with
      | true => exact ⟨D + 1, Nat.le_refl _, fun j hj => by
          by_cases c : j = D
          · subst c; exact hP
          · exact h2 j (by omega), fun h => absurd h (by omega)⟩
      | false => exact ⟨D, by omega, h2, fun _ => hP⟩
/-! digits -/
def dP (M : zM) (j : Nat) : Bool := decide (j < 6) && sIn (M.1 2 j) 48 57
def dgM (M : zM) : Nat → zM
  | 0 => M
  | i + 1 => zSI (dgM M i) 35 i (M.1 2 i - 48)
theorem dgM_spec (M : zM) : ∀ i, (dgM M i).2 = M.2 ∧ (∀ q, q ≠ 35 → (dgM M i).1 q = M.1 q) ∧ ∀ j, j < i → (dgM M i).1 35 j = M.1 2 j - 48
  | 0 => ⟨rfl, fun _ _ => rfl, fun j hj => absurd hj (by omega)⟩
  | i + 1 => by
    obtain ⟨a, b, c⟩ := dgM_spec M i
    refine ⟨a, fun q hq => by show (zSI (dgM M i) 35 i _).1 q = _; rw [zSI_other _ _ _ hq]; exact b q hq, fun j hj => ?_⟩
    show (zSI (dgM M i) 35 i (M.1 2 i - 48)).1 35 j = _
    rw [gSI]
    by_cases e : j = i
    · subst e; rw [if_pos ⟨rfl, rfl⟩]
    · rw [if_neg (fun z => e z.2)]; exact c j (by omega)
theorem c_digits {M : zM} {k D : Nat} (hk : k ≤ 80) (h1 : M.1 1 1 = nI k) (hD : D ≤ k) (hP : ∀ j, j < D → dP M j = true) (hF : D < k → dP M D = false) : fX9_readDigits 35 M = some (if D < k then -1 - nI D else nI k, dgM M D) := by
  have hD6 : D ≤ 6 := by
    rcases Nat.lt_or_ge 6 D with h | h
    · have := hP 6 h
      unfold dP at this
      simp at this
    · exact h
  have key : fX9_readDigits_L2 35 4000 0 M = some (if D < k then .inl (-1 - nI D, dgM M D) else .inr (dgM M D)) := by
    refine zforE (fun n (s : Int32 × zM) => fX9_readDigits_L2 35 n s.1 s.2) (fun i => (nI i, dgM M i)) 6 _ D hD6 (fun n i hi => ?_) (fun n => ?_) 4000 (by omega)
    · have hp := hP i hi
      unfold dP sIn at hp
      simp at hp
      obtain ⟨h6, hd1, hd2⟩ := hp
      obtain ⟨-, b, -⟩ := dgM_spec M i
      have i31 : i < 2 ^ 31 := by omega
      simp only [fX9_readDigits_L2, b 1 (by omega), b 2 (by omega), h1, if_neg (leF (show i < k by omega) (by omega)), if_pos (show zSH 35 = .inr (0, zLen 35) from rfl), if_neg (show ¬ Int32.ofNat (zLen 35) ≤ nI i from leF (a := 6) h6 (by omega)), if_pos (zinT (show i < 80 by omega) i31), nI_clamp i31, if_neg (show ¬ M.1 2 i < 48 from (ilt_nle _ _).mpr hd1), if_pos (show M.1 2 i ≤ 57 from hd2), if_pos (show zin (nI i) (zLen 35) from zinT h6 i31), zlet, nI_1]
      rfl
    · obtain ⟨-, b, -⟩ := dgM_spec M D
      have i31 : D < 2 ^ 31 := by omega
      show fX9_readDigits_L2 35 (n + 1) (nI D) (dgM M D) = _
      simp only [fX9_readDigits_L2, b 1 (by omega), b 2 (by omega), h1, if_pos (show zSH 35 = .inr (0, zLen 35) from rfl), if_pos (show zSH 35 = .inr (0, zLen 35) from rfl)]
      by_cases c : D < k
      · rw [if_neg (leF c (by omega)), if_pos c]
        have hf := hF c
        unfold dP at hf
        by_cases c6 : D < 6
        · rw [if_neg (show ¬ Int32.ofNat (zLen 35) ≤ nI D from leF (a := 6) c6 (by omega)), if_pos (zinT (show D < 80 by omega) i31), nI_clamp i31]
          simp [c6] at hf
          unfold sIn at hf
          by_cases c48 : M.1 2 D < 48
          · rw [if_pos c48]
          · rw [if_neg c48]
            have : 57 < M.1 2 D := by
              by_cases z : 57 < M.1 2 D
              · exact z
              · exfalso
                simp at hf
                exact z (hf ((ilt_nle _ _).mp c48))
            rw [if_neg ((ile_nlt _ _).mpr this)]
        · rw [if_pos (show Int32.ofNat (zLen 35) ≤ nI D from leT (a := 6) (by omega) (by omega))]
      · rw [if_pos (leT (show k ≤ D by omega) (by omega)), if_neg c]
  unfold fX9_readDigits
  rw [key]
  by_cases c : D < k
  · rw [if_pos c, if_pos c]; rfl
  · rw [if_neg c, if_neg c]
    show some ((dgM M D).1 1 1, dgM M D) = _
    rw [(dgM_spec M D).2.1 1 (by omega), h1]
