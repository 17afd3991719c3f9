/-! likely -/
theorem pX11_power {a k : Nat} (hk : k < 100) : fX11_power (lN a) (nI k) = some (lN (a ^ k)) := by
  unfold fX11_power
  rw [show fX11_power_L5 (lN a) (nI k) 4000 1 0 = some (lN (a ^ k)) from zfor (fun m (q : Int64 × Int32) => fX11_power_L5 (lN a) (nI k) m q.1 q.2) (fun i => (lN (a ^ i), nI i)) k _
    (fun m i hi => by simp only [fX11_power_L5, if_neg (leF hi (by omega)), zlet, lN_mul, nI_1, Nat.pow_succ])
    (fun m => by simp only [fX11_power_L5, if_pos (leT (Nat.le_refl k) (by omega))])
    k 0 4000 (by omega) (by omega)]
  rfl
theorem pX12_power {a k : Nat} (hk : k < 100) : fX12_power (lN a) (nI k) = some (lN (a ^ k)) := by
  unfold fX12_power
  rw [show fX12_power_L5 (lN a) (nI k) 4000 1 0 = some (lN (a ^ k)) from zfor (fun m (q : Int64 × Int32) => fX12_power_L5 (lN a) (nI k) m q.1 q.2) (fun i => (lN (a ^ i), nI i)) k _
    (fun m i hi => by simp only [fX12_power_L5, if_neg (leF hi (by omega)), zlet, lN_mul, nI_1, Nat.pow_succ])
    (fun m => by simp only [fX12_power_L5, if_pos (leT (Nat.le_refl k) (by omega))])
    k 0 4000 (by omega) (by omega)]
  rfl
def lkN (M : zM) (nd v k p i : Nat) : Nat := if nI i &&& (nI v ^^^ (-1)) = 0 ∧ ¬ fJ6_bitCount_0f7a4 (sCan M nd (nI i)) < nI k then (10 - p) ^ pcN i * p ^ (pcN v - pcN i) else 0
theorem sub_bits {i v : Nat} (h : nI i &&& (nI v ^^^ (-1)) = 0) (hi : i < 256) : pcN i ≤ pcN v := by
  rw [pc_ct, pc_ct]
  refine ct_mono (fun t ht q => ?_)
  have e := congrArg (fun w => bt w t) h
  simp only [b_and, b_not _ (show t < 32 by omega), bt_nI _ (show t < 32 by omega), b_0, q] at e
  simpa using e
theorem lkN_le {M : zM} {nd v k p i : Nat} (hi : i < 256) (hp : p ≤ 10) : lkN M nd v k p i ≤ 10 ^ 8 := by
  unfold lkN
  split
  · rename_i h
    have hs := sub_bits h.1 hi
    have h8 := pcN_le v
    have a1 : (10 - p) ^ pcN i ≤ 10 ^ pcN i := Nat.pow_le_pow_left (by omega) _
    have a2 : p ^ (pcN v - pcN i) ≤ 10 ^ (pcN v - pcN i) := Nat.pow_le_pow_left hp _
    calc (10 - p) ^ pcN i * p ^ (pcN v - pcN i) ≤ 10 ^ pcN i * 10 ^ (pcN v - pcN i) := Nat.mul_le_mul a1 a2
      _ = 10 ^ pcN v := by rw [← Nat.pow_add]; congr 1; omega
      _ ≤ 10 ^ 8 := Nat.pow_le_pow_right (by omega) h8
  · exact Nat.zero_le _
theorem op_likely {M : zM} {n nd : Nat} (hS : RS M n nd) (hW : RW M n 60 37 0) (hO : RO M) (x y : Int32) : OpQ (fX11_likely x y) (fX12_likely x y) M := by
  have hS0 := hS
  obtain ⟨⟨h8, h6⟩, ⟨s1, s2, s3, s4⟩, -, -, hN⟩ := hS
  have i6 : ∀ z : Int32, fX12_in z 0 6 = if z < 0 then 0 else if 6 < z then 0 else 1 := fun z => rfl
  have i10 : ∀ z : Int32, fX12_in z 0 10 = if z < 0 then 0 else if 10 < z then 0 else 1 := fun z => rfl
  have no : ∀ N, FrC M N → ((fX12_in x 0 6) = 0 ∨ (fX12_in y 0 10) = 0) → wpO (fX12_likely x y N) (fun q => q.1 = -1 ∧ FrM N q.2 ∧ q.2.1 36 11 = N.1 36 11 ∧ q.2.2.1 42 = N.2.1 42) := fun N f h => by
    unfold fX12_likely
    refine wM_thrown (fun N0 f0 a1 a2 _ => ?_)
    by_cases c : fX12_in x 0 6 = 0
    · exact wpO_tk c (wpO_ret ⟨rfl, f0, a1, by rw [a2]⟩)
    · exact wpO_fk c (wpO_tk (h.resolve_left c) (wpO_ret ⟨rfl, f0, a1, by rw [a2]⟩))
  rcases split_ix x (n := 7) (by omega) with hx | ⟨k, hk, rfl⟩
  · refine opR (r := -1) hO ?_ (fun N f => no N f (Or.inl ?_))
    · unfold fX11_likely
      by_cases h0 : x < 0
      · exact wpO_tk h0 (wpO_ret ⟨rfl, FrC.refl M, rfl, rfl⟩)
      · refine wpO_fk h0 (wpO_tk ?_ (wpO_ret ⟨rfl, FrC.refl M, rfl, rfl⟩))
        exact (out_lt (by omega) hx h0).2
    · rw [i6]
      by_cases h0 : x < 0
      · rw [if_pos h0]
      · rw [if_neg h0, if_pos (show 6 < x from (out_lt (by omega) hx h0).2)]
  · have k0 : ¬ nI k < 0 := nI_nneg (by omega)
    have k1 : ¬ 6 < nI k := in_nlt (n := 7) (by omega) hk
    rcases split_ix y (n := 11) (by omega) with hy | ⟨p, hp, rfl⟩
    · refine opR (r := -1) hO ?_ (fun N f => no N f (Or.inr ?_))
      · unfold fX11_likely
        refine wpO_fk k0 (wpO_fk k1 ?_)
        by_cases h0 : y < 0
        · exact wpO_tk h0 (wpO_ret ⟨rfl, FrC.refl M, rfl, rfl⟩)
        · refine wpO_fk h0 (wpO_fk ?_ (wpO_ret ⟨rfl, FrC.refl M, rfl, rfl⟩))
          rw [ile_nlt]
          exact (out_lt (by omega) hy h0).2
      · rw [i10]
        by_cases h0 : y < 0
        · rw [if_pos h0]
        · rw [if_neg h0, if_pos (show 10 < y from (out_lt (by omega) hy h0).2)]
    · have p0 : ¬ nI p < 0 := nI_nneg (by omega)
      have p1 : ¬ 10 < nI p := in_nlt (n := 11) (by omega) hp
      obtain ⟨v, hv, ev⟩ := bsN (p := fun t => decide (M.1 37 t = 0 ∧ M.1 37 (8 + t) = nI 6)) (n := n) (by omega)
      have hv2 : v < 256 := by have := pow_le_256 h8; omega
      have ev : sHad M n (nI 6) = nI v := ev
      have e10 : (10 - nI p).toInt64 = lN (10 - p) := by
        rw [show (10 : Int32) - nI p = nI (10 - p) from nI_subN (a := 10) (by omega), toL (by omega)]
      have ep : (nI p).toInt64 = lN p := toL (by omega)
      have hb := smN_le (f := lkN M nd v k p) (c := 10 ^ 8) (n := v + 1) (fun i hi => lkN_le (by omega) (by omega))
      have hb2 : smN (lkN M nd v k p) (v + 1) < 2 ^ 62 := by
        have : (v + 1) * 10 ^ 8 ≤ 256 * 10 ^ 8 := Nat.mul_le_mul_right _ (by omega)
        omega
      have h9 := pcN_le v
      have hq : 10 ^ pcN v ≤ 10 ^ 8 := Nat.pow_le_pow_right (by omega) h9
      have hq0 : 0 < 10 ^ pcN v := Nat.pow_pos (by omega)
      have eC : fX11_likely_L44 (nI k) (nI p) (nI v) (nI (pcN v)) M 4000 0 0 = some (lN (smN (lkN M nd v k p) (v + 1))) :=
        zfor (fun m (q : Int64 × Int32) => fX11_likely_L44 (nI k) (nI p) (nI v) (nI (pcN v)) M m q.1 q.2) (fun i => (lN (smN (lkN M nd v k p) i), nI i)) (v + 1) _
          (fun m i hi => by
            have hi8 := pcN_le i
            simp only [fX11_likely_L44, if_neg (show ¬ nI v < nI i from ltF (by omega) (by omega)), cDo hS0 (FrC.refl M), Option.bind_some, zlet, bc_nI i (by omega), e10, ep, nI_1, smN, lkN]
            by_cases c1 : nI i &&& (nI v ^^^ (-1)) = 0
            · have hs := sub_bits c1 (by omega)
              by_cases c2 : fJ6_bitCount_0f7a4 (sCan M nd (nI i)) < nI k
              · simp only [c1, c2, if_true, Option.bind_some, not_true, and_false, if_false, Nat.add_zero]
              · simp only [c1, c2, if_true, Option.bind_some, not_false_eq_true, and_self, if_false, show ¬ (1 : Int32) = 0 by decide, nI_subN hs, pX11_power (show pcN i < 100 by omega), pX11_power (show pcN v - pcN i < 100 by omega), lN_mul, lN_add]
            · simp only [c1, if_false, false_and, Option.bind_some, if_true, Nat.add_zero])
          (fun m => by simp only [fX11_likely_L44, if_pos (show nI v < nI (v + 1) from ltT (by omega) (by omega))])
          (v + 1) 0 4000 (by omega) (by omega)
      have eM : ∀ N, E12 M N → fX12_likely_L50 (nI k) (nI p) (nI v) (nI (pcN v)) N 4000 0 0 = some (lN (smN (lkN M nd v k p) (v + 1))) := fun N e =>
        zfor (fun m (q : Int64 × Int32) => fX12_likely_L50 (nI k) (nI p) (nI v) (nI (pcN v)) N m q.1 q.2) (fun i => (lN (smN (lkN M nd v k p) i), nI i)) (v + 1) _
          (fun m i hi => by
            have hi8 := pcN_le i
            simp only [fX12_likely_L50, if_neg (show ¬ nI v < nI i from ltF (by omega) (by omega)), mCan s4 h6 e, Option.bind_some, zlet, bc_nI i (by omega), e10, ep, nI_1, smN, lkN, ite_le]
            by_cases c1 : nI i &&& (nI v ^^^ (-1)) = 0
            · have hs := sub_bits c1 (by omega)
              by_cases c2 : fJ6_bitCount_0f7a4 (sCan M nd (nI i)) < nI k
              · simp only [c1, c2, if_true, Option.bind_some, not_true, and_false, if_false, Nat.add_zero]
              · simp only [c1, c2, if_true, Option.bind_some, not_false_eq_true, and_self, if_false, nI_subN hs, pX12_power (show pcN i < 100 by omega), pX12_power (show pcN v - pcN i < 100 by omega), lN_mul, lN_add]
            · simp only [c1, if_false, false_and, Option.bind_some, Nat.add_zero])
          (fun m => by simp only [fX12_likely_L50, if_pos (show nI v < nI (v + 1) from ltT (by omega) (by omega))])
          (v + 1) 0 4000 (by omega) (by omega)
      generalize smN (lkN M nd v k p) (v + 1) = A at eC eM hb2
      refine opQ (r := 0) (l := [lN (A / Nat.gcd A (10 ^ pcN v)), lN (10 ^ pcN v / Nat.gcd A (10 ^ pcN v))]) (Nat.le_of_ble_eq_true rfl) ?_ (fun N f => ?_)
      · unfold fX11_likely
        refine wpO_fk k0 (wpO_fk k1 (wpO_fk p0 (wpO_tk ((ilt_nle _ _).mp p1) (wpO_ek (cHeld (q := 6) hS0 hW (FrC.refl M) (by omega)) (wpO_lk ?_)))))
        rw [ev, bc_nI v hv2]
        exact wpO_ek eC (wC_begin (fun N1 f1 r1 => wpO_ek (pX11_power (a := 10) (by omega)) (wC_frac r1 (Nat.le_of_ble_eq_true rfl) hb2 (by omega) hq0 (fun N2 f2 r2 => wpO_ret ⟨rfl, f1.trans f2, r2⟩))))
      · unfold fX12_likely
        refine wM_thrown (fun N0 f0 _ _ _ => wpO_fk (by rw [i6, if_neg k0, if_neg k1]; decide) (wpO_fk (by rw [i10, if_neg p0, if_neg p1]; decide) (wpO_ek (mHad s2 h8 ((E12.ofC f).fr f0) 6) (wpO_lk ?_))))
        have ev2 : sHad M n 6 = nI v := ev
        rw [ev2, bc_nI v hv2]
        exact wpO_ek (eM N0 ((E12.ofC f).fr f0)) (wpO_ek (pX12_power (a := 10) (by omega)) (wM_frac hb2 (by omega) hq0 (fun N2 f2 r2 => wpO_ret ⟨rfl, f0.trans f2, r2⟩)))
/-! strays -/
def ch (n : Nat) : Nat → Nat
  | 0 => 1
  | i + 1 => ch n i * (n - i) / (i + 1)
theorem ch_le : ∀ n, n < 21 → ∀ i, i < 22 → ch n i < 2 ^ 30 := by decide +kernel
/-- ways to stand r places on behind n steps -/
def stT : List Nat := [1, 0, 0, 0, 0, 0, 0, 1, 0, 0, 0, 1, 2, 0, 1, 0, 1, 0, 0, 3, 0, 2, 0, 3, 6, 0, 5, 0, 5, 0, 0, 11, 0, 10, 0, 11, 22, 0, 21, 0, 21, 0, 0, 43, 0, 42, 0, 43, 86, 0, 85, 0, 85, 0, 0, 171, 0, 170, 0, 171, 342, 0, 341, 0, 341, 0, 0, 683, 0, 682, 0, 683, 1366, 0, 1365, 0, 1365, 0, 0, 2731, 0, 2730, 0, 2731, 5462, 0, 5461, 0, 5461, 0, 0, 10923, 0, 10922, 0, 10923, 21846, 0, 21845, 0, 21845, 0, 0, 43691, 0, 43690, 0, 43691, 87382, 0, 87381, 0, 87381, 0, 0, 174763, 0, 174762, 0, 174763, 349526, 0, 349525, 0, 349525, 0]
def stN (n r : Nat) : Nat := stT.getD (6 * n + r) 0
theorem st_step : ∀ n, n < 20 → ∀ r, r < 6 → stN (n + 1) r = stN n ((r + 1) % 6) + stN n ((r + 5) % 6) := by decide +kernel
theorem st_sum : ∀ n, n < 21 → ∀ r, r < 6 → smN (fun i => if (2 * i + 60 - n) % 6 = r then ch n i else 0) (n + 1) = stN n r := by decide +kernel
theorem st_lt : ∀ n, n < 21 → ∀ r, r < 6 → stN n r < 2 ^ 30 := by decide +kernel
theorem st_0 : ∀ r, r < 6 → stN 0 r = if r = 0 then 1 else 0 := by decide +kernel
theorem st_fm : ∀ a, a < 6 → ∀ n, n < 21 → ∀ i, i < n + 1 → fJ9_floorMod_7cf53 ((nI a + nI i) - nI (n - i)) 6 = some (nI ((a + 2 * i + 60 - n) % 6)) := by decide +kernel
theorem st_r1 : ∀ p, p < 6 → zrem (nI (p + 1)) 6 = nI ((p + 1) % 6) := by decide +kernel
theorem st_r5 : ∀ p, p < 6 → zrem ((nI p + 6) - 1) 6 = nI ((p + 5) % 6) := by decide +kernel
theorem st_sh : ∀ n, n < 21 → zlshl 1 (nI n) = lN (2 ^ n) := by decide +kernel
theorem cStrays {M : zM} {a b n : Nat} (ha : a < 6) (hb : b < 6) (hn : n < 21) : fX11_strays_L35 (nI a) (nI b) (nI n) M 4000 0 1 0 = some (lN (stN n ((b + 6 - a) % 6))) := by
  rw [← st_sum n hn _ (Nat.mod_lt _ (by omega))]
  exact zfor (fun m (q : Int64 × Int64 × Int32) => fX11_strays_L35 (nI a) (nI b) (nI n) M m q.1 q.2.1 q.2.2) (fun i => (lN (smN (fun i => if (2 * i + 60 - n) % 6 = (b + 6 - a) % 6 then ch n i else 0) i), lN (ch n i), nI i)) (n + 1) _
    (fun m i hi => by
      have h1 : ¬ (nI (i + 1)).toInt64 = 0 := by
        rw [toL (by omega)]
        exact fun z => by have := (lN_eq0 (by omega)).mp z; omega
      have h1' : ¬ lN (i + 1) = 0 := fun z => by have := (lN_eq0 (by omega)).mp z; omega
      have hc := ch_le n hn i (by omega)
      have hm : ch n i * (n - i) < 2 ^ 63 := by
        have : ch n i * (n - i) ≤ 2 ^ 30 * 21 := Nat.mul_le_mul (by omega) (by omega)
        omega
      have hr : (a + 2 * i + 60 - n) % 6 < 6 := Nat.mod_lt _ (by omega)
      have e : (nI ((a + 2 * i + 60 - n) % 6) = nI b) ↔ (2 * i + 60 - n) % 6 = (b + 6 - a) % 6 := by
        rw [nI_eq (by omega) (by omega)]
        omega
      simp only [fX11_strays_L35, if_neg (show ¬ nI n < nI i from ltF (by omega) (by omega)), st_fm a ha n hn i hi, Option.bind_some, nI_1, zlet, if_pos h1, toL (show i + 1 < 2 ^ 31 by omega), if_pos h1', nI_subN (show i ≤ n by omega), toL (show n - i < 2 ^ 31 by omega), lN_mul, pk_lDiv hm (show 0 < i + 1 by omega) (show i + 1 < 2 ^ 63 by omega), e, smN, ch]
      by_cases c : (2 * i + 60 - n) % 6 = (b + 6 - a) % 6
      · simp only [c, if_true, lN_add]
      · simp only [c, if_false, Nat.add_zero])
    (fun m => by simp only [fX11_strays_L35, if_pos (show nI n < nI (n + 1) from ltT (by omega) (by omega))])
    (n + 1) 0 4000 (by omega) (by omega)
def SV (N : zM) (k : Nat) (g : Nat → Nat) (m : Nat) : Prop := ∀ j, j < m → N.2.1 k j = lN (g j)
theorem SV.step {N : zM} {k : Nat} {g : Nat → Nat} {m : Nat} (h : SV N k g m) : SV (zSJ N k m (lN (g m))) k g (m + 1) := fun j hj => by
  rw [gSJ]
  by_cases e : j = m
  · subst e; rw [if_pos ⟨rfl, rfl⟩]
  · rw [if_neg (fun z => e z.2)]; exact h j (by omega)
theorem SV.other {N : zM} {k q j : Nat} {x : Int64} {g : Nat → Nat} {m : Nat} (h : SV N k g m) (hq : k ≠ q) : SV (zSJ N q j x) k g m := fun i hi => by
  rw [zSJ_other N j x hq]; exact h i hi
theorem mSt1 {x y : Int32} {a : Nat} {M : zM} (ha : a < 6) : ∃ N, fX12_strays_L38 (nI a) x y 4000 0 M = some N ∧ FrM M N ∧ SV N 53 (fun p => if p = a then 1 else 0) 6 := by
  refine zforI (fun k (q : Int32 × zM) => fX12_strays_L38 (nI a) x y k q.1 q.2) (fun i q => q.1 = nI i ∧ FrM M q.2 ∧ SV q.2 53 (fun p => if p = a then 1 else 0) i) 6 (fun o => ∃ N, o = some N ∧ FrM M N ∧ SV N 53 (fun p => if p = a then 1 else 0) 6) ?_ ?_ 6 0 4000 (0, M) rfl (by omega) ⟨rfl, FrM.refl M, fun j hj => absurd hj (Nat.not_lt_zero j)⟩
  · rintro k i ⟨b, N⟩ hi ⟨e1, f, h⟩
    dsimp only at e1 f h ⊢
    subst e1
    refine ⟨(nI (i + 1), zSJ N 53 i (lN (if i = a then 1 else 0))), ⟨rfl, f.trans (FrM.SJ N 53 i _ (by omega)), h.step⟩, ?_⟩
    have e : (if nI i = nI a then (1 : Int64) else 0) = lN (if i = a then 1 else 0) := by
      by_cases c : i = a
      · subst c; rw [if_pos rfl, if_pos rfl]; rfl
      · rw [if_neg (fun z => c ((nI_eq (by omega) (by omega)).mp z)), if_neg c]; exact lN_0.symm
    simp only [fX12_strays_L38, if_neg (show ¬ 6 ≤ nI i from leF (a := 6) hi (by omega)), if_pos (zinT hi (by omega)), nI_clamp (show i < 2 ^ 31 by omega), e, zlet, nI_1]
  · rintro k ⟨b, N⟩ ⟨e1, f, h⟩
    dsimp only at e1 f h ⊢
    subst e1
    exact ⟨N, by simp only [fX12_strays_L38, if_pos (show 6 ≤ nI 6 from leT (a := 6) (Nat.le_refl 6) (by omega))], f, h⟩
theorem mSt2 {x y z : Int32} {g : Nat → Nat} {M : zM} (h0 : SV M 53 g 6) : ∃ N, fX12_strays_L81 x y z 4000 0 M = some N ∧ FrM M N ∧ SV N 55 (fun p => g ((p + 1) % 6) + g ((p + 5) % 6)) 6 := by
  refine zforI (fun k (q : Int32 × zM) => fX12_strays_L81 x y z k q.1 q.2) (fun i q => q.1 = nI i ∧ FrM M q.2 ∧ SV q.2 53 g 6 ∧ SV q.2 55 (fun p => g ((p + 1) % 6) + g ((p + 5) % 6)) i) 6 (fun o => ∃ N, o = some N ∧ FrM M N ∧ SV N 55 (fun p => g ((p + 1) % 6) + g ((p + 5) % 6)) 6) ?_ ?_ 6 0 4000 (0, M) rfl (by omega) ⟨rfl, FrM.refl M, h0, fun j hj => absurd hj (Nat.not_lt_zero j)⟩
  · rintro k i ⟨b, N⟩ hi ⟨e1, f, h, h2⟩
    dsimp only at e1 f h h2 ⊢
    subst e1
    have m1 : (i + 1) % 6 < 6 := Nat.mod_lt _ (by omega)
    have m5 : (i + 5) % 6 < 6 := Nat.mod_lt _ (by omega)
    refine ⟨(nI (i + 1), zSJ N 55 i (lN (g ((i + 1) % 6) + g ((i + 5) % 6)))), ⟨rfl, f.trans (FrM.SJ N 55 i _ (by omega)), h.other (by omega), h2.step⟩, ?_⟩
    simp only [fX12_strays_L81, if_neg (show ¬ 6 ≤ nI i from leF (a := 6) hi (by omega)), st_r1 i hi, st_r5 i hi, if_pos (zinT hi (by omega)), if_pos (zinT m1 (by omega)), if_pos (zinT m5 (by omega)), nI_clamp (show i < 2 ^ 31 by omega), nI_clamp (show (i + 1) % 6 < 2 ^ 31 by omega), nI_clamp (show (i + 5) % 6 < 2 ^ 31 by omega), h _ m1, h _ m5, lN_add, zlet, nI_1]
  · rintro k ⟨b, N⟩ ⟨e1, f, h, h2⟩
    dsimp only at e1 f h h2 ⊢
    subst e1
    exact ⟨N, by simp only [fX12_strays_L81, if_pos (show 6 ≤ nI 6 from leT (a := 6) (Nat.le_refl 6) (by omega))], f, h2⟩
theorem mSt3 {x y z : Int32} {g : Nat → Nat} {M : zM} (h0 : SV M 55 g 6) : ∃ N, fX12_strays_L132 x y z 4000 0 M = some N ∧ FrM M N ∧ SV N 53 g 6 := by
  refine zforI (fun k (q : Int32 × zM) => fX12_strays_L132 x y z k q.1 q.2) (fun i q => q.1 = nI i ∧ FrM M q.2 ∧ SV q.2 55 g 6 ∧ SV q.2 53 g i) 6 (fun o => ∃ N, o = some N ∧ FrM M N ∧ SV N 53 g 6) ?_ ?_ 6 0 4000 (0, M) rfl (by omega) ⟨rfl, FrM.refl M, h0, fun j hj => absurd hj (Nat.not_lt_zero j)⟩
  · rintro k i ⟨b, N⟩ hi ⟨e1, f, h, h2⟩
    dsimp only at e1 f h h2 ⊢
    subst e1
    refine ⟨(nI (i + 1), zSJ N 53 i (lN (g i))), ⟨rfl, f.trans (FrM.SJ N 53 i _ (by omega)), h.other (by omega), h2.step⟩, ?_⟩
    simp only [fX12_strays_L132, if_neg (show ¬ 6 ≤ nI i from leF (a := 6) hi (by omega)), if_pos (zinT hi (by omega)), nI_clamp (show i < 2 ^ 31 by omega), h i hi, zlet, nI_1]
  · rintro k ⟨b, N⟩ ⟨e1, f, h, h2⟩
    dsimp only at e1 f h h2 ⊢
    subst e1
    exact ⟨N, by simp only [fX12_strays_L132, if_pos (show 6 ≤ nI 6 from leT (a := 6) (Nat.le_refl 6) (by omega))], f, h2⟩
theorem mSt4 {x : Int32} {a n : Nat} {M : zM} (ha : a < 6) (hn : n < 21) (h0 : SV M 53 (fun p => stN 0 ((p + 6 - a) % 6)) 6) : ∃ N, fX12_strays_L72 x (nI n) 4000 0 M = some N ∧ FrM M N ∧ SV N 53 (fun p => stN n ((p + 6 - a) % 6)) 6 := by
  refine zforI (fun k (q : Int32 × zM) => fX12_strays_L72 x (nI n) k q.1 q.2) (fun i q => q.1 = nI i ∧ FrM M q.2 ∧ SV q.2 53 (fun p => stN i ((p + 6 - a) % 6)) 6) n (fun o => ∃ N, o = some N ∧ FrM M N ∧ SV N 53 (fun p => stN n ((p + 6 - a) % 6)) 6) ?_ ?_ n 0 4000 (0, M) (by omega) (by omega) ⟨rfl, FrM.refl M, h0⟩
  · rintro k i ⟨b, N⟩ hi ⟨e1, f, h⟩
    dsimp only at e1 f h ⊢
    subst e1
    obtain ⟨N1, e1, f1, h1⟩ := mSt2 (x := x) (y := nI n) (z := nI i) h
    obtain ⟨N2, e2, f2, h2⟩ := mSt3 (x := x) (y := nI n) (z := nI i) h1
    refine ⟨(nI (i + 1), N2), ⟨rfl, (f.trans f1).trans f2, fun j hj => ?_⟩, ?_⟩
    · rw [h2 j hj]
      congr 1
      show stN i (((j + 1) % 6 + 6 - a) % 6) + stN i (((j + 5) % 6 + 6 - a) % 6) = stN (i + 1) ((j + 6 - a) % 6)
      rw [st_step i (by omega) _ (Nat.mod_lt _ (by omega))]
      congr 2 <;> omega
    · simp only [fX12_strays_L72, if_neg (leF hi (by omega)), e1, e2, Option.bind_some, nI_1]
  · rintro k ⟨b, N⟩ ⟨e1, f, h⟩
    dsimp only at e1 f h ⊢
    subst e1
    exact ⟨N, by simp only [fX12_strays_L72, if_pos (leT (Nat.le_refl n) (by omega))], f, h⟩
theorem isPl0 {x : Int32} (h : x < 0 ∨ nI 6 ≤ x) : fX11_isPlace x = 0 := by
  unfold fX11_isPlace
  by_cases h0 : x < 0
  · rw [if_pos h0]
  · rw [if_neg h0, if_pos (show 6 ≤ x from h.resolve_left h0)]
theorem isPl1 {a : Nat} (h : a < 6) : fX11_isPlace (nI a) = 1 := by
  unfold fX11_isPlace
  rw [if_neg (nI_nneg (by omega)), if_neg (show ¬ 6 ≤ nI a from leF (a := 6) h (by omega))]
theorem op_strays {M : zM} (hO : RO M) (x y z : Int32) : OpQ (fX11_strays x y z) (fX12_strays x y z) M := by
  have no : ∀ N, FrC M N → (fX12_in x 0 5 = 0 ∨ fX12_in y 0 5 = 0 ∨ fX12_in z 0 20 = 0) → wpO (fX12_strays x y z N) (fun q => q.1 = -1 ∧ FrM N q.2 ∧ q.2.1 36 11 = N.1 36 11 ∧ q.2.2.1 42 = N.2.1 42) := fun N f h => by
    unfold fX12_strays
    refine wM_thrown (fun N0 f0 a1 a2 _ => ?_)
    by_cases c : fX12_in x 0 5 = 0
    · exact wpO_tk c (wpO_ret ⟨rfl, f0, a1, by rw [a2]⟩)
    · refine wpO_fk c ?_
      by_cases c2 : fX12_in y 0 5 = 0
      · exact wpO_tk c2 (wpO_ret ⟨rfl, f0, a1, by rw [a2]⟩)
      · exact wpO_fk c2 (wpO_tk ((h.resolve_left c).resolve_left c2) (wpO_ret ⟨rfl, f0, a1, by rw [a2]⟩))
  rcases split_ix x (n := 6) (by omega) with hx | ⟨a, ha, rfl⟩
  · refine opR (r := -1) hO ?_ (fun N f => no N f (Or.inl (in0 (n := 6) (by omega) hx)))
    unfold fX11_strays
    exact wpO_tk (isPl0 hx) (wpO_ret ⟨rfl, FrC.refl M, rfl, rfl⟩)
  · rcases split_ix y (n := 6) (by omega) with hy | ⟨b, hb, rfl⟩
    · refine opR (r := -1) hO ?_ (fun N f => no N f (Or.inr (Or.inl (in0 (n := 6) (by omega) hy))))
      unfold fX11_strays
      exact wpO_fk (by rw [isPl1 ha]; decide) (wpO_tk (isPl0 hy) (wpO_ret ⟨rfl, FrC.refl M, rfl, rfl⟩))
    · rcases split_ix z (n := 21) (by omega) with hz | ⟨n, hn, rfl⟩
      · refine opR (r := -1) hO ?_ (fun N f => no N f (Or.inr (Or.inr (in0 (n := 21) (by omega) hz))))
        unfold fX11_strays
        refine wpO_fk (by rw [isPl1 ha]; decide) (wpO_fk (by rw [isPl1 hb]; decide) ?_)
        by_cases h0 : z < 0
        · exact wpO_tk h0 (wpO_ret ⟨rfl, FrC.refl M, rfl, rfl⟩)
        · refine wpO_fk h0 (wpO_fk ?_ (wpO_ret ⟨rfl, FrC.refl M, rfl, rfl⟩))
          rw [ile_nlt]
          exact (out_lt (by omega) hz h0).2
      · have hr : (b + 6 - a) % 6 < 6 := Nat.mod_lt _ (by omega)
        have hv := st_lt n hn _ hr
        have hp : 2 ^ n ≤ 2 ^ 20 := Nat.pow_le_pow_right (by omega) (by omega)
        have hp0 : 0 < 2 ^ n := Nat.pow_pos (by omega)
        refine opQ (r := 0) (l := [lN (stN n ((b + 6 - a) % 6) / Nat.gcd (stN n ((b + 6 - a) % 6)) (2 ^ n)), lN (2 ^ n / Nat.gcd (stN n ((b + 6 - a) % 6)) (2 ^ n))]) (Nat.le_of_ble_eq_true rfl) ?_ (fun N f => ?_)
        · unfold fX11_strays
          refine wpO_fk (by rw [isPl1 ha]; decide) (wpO_fk (by rw [isPl1 hb]; decide) (wpO_fk (nI_nneg (by omega)) (wpO_tk (show nI n ≤ 20 from leT (b := 20) (by omega) (by omega)) (wpO_ek (cStrays ha hb hn) ?_))))
          rw [st_sh n hn]
          exact wC_begin (fun N1 f1 r1 => wC_frac r1 (Nat.le_of_ble_eq_true rfl) (by omega) (by omega) hp0 (fun N2 f2 r2 => wpO_ret ⟨rfl, f1.trans f2, r2⟩))
        · unfold fX12_strays
          refine wM_thrown (fun N0 f0 _ _ _ => wpO_fk (by rw [show fX12_in (nI a) 0 5 = 1 from in1 (n := 6) (by omega) ha]; decide) (wpO_fk (by rw [show fX12_in (nI b) 0 5 = 1 from in1 (n := 6) (by omega) hb]; decide) (wpO_fk (by rw [show fX12_in (nI n) 0 20 = 1 from in1 (n := 21) (by omega) hn]; decide) ?_)))
          obtain ⟨N1, e1, f1, h1⟩ := mSt1 (x := nI b) (y := nI n) (M := N0) ha
          obtain ⟨N2, e2, f2, h2⟩ := mSt4 (x := nI b) (M := N1) ha hn (fun j hj => by
            rw [h1 j hj]
            congr 1
            show (if j = a then 1 else 0) = stN 0 ((j + 6 - a) % 6)
            rw [st_0 _ (Nat.mod_lt _ (by omega))]
            by_cases c : j = a
            · subst c; rw [if_pos rfl, if_pos (by omega)]
            · rw [if_neg c, if_neg (by omega)])
          refine wpO_ek e1 (wpO_ek e2 (wpO_tk (zinT hb (by omega)) ?_))
          rw [nI_clamp (show b < 2 ^ 31 by omega), h2 b hb, st_sh n hn]
          exact wM_frac (a := stN n ((b + 6 - a) % 6)) (by omega) (by omega) hp0 (fun N3 f3 r3 => wpO_ret ⟨rfl, ((f0.trans f1).trans f2).trans f3, r3⟩)
