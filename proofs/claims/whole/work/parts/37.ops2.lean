theorem akR_congr {m k : Nat → Int32} {n : Nat} (h : ∀ t, t < n → m t = k t) (s : Int32 × Int32 × Int32) : fd (akR m n) s n = fd (akR k n) s n :=
  fd_congr (fun a z ha => fd_congr (fun i y hi => by
    unfold akS
    rw [h a ha, h (a + 1 + i) (by omega)]))
theorem op_alike {M : zM} {n nd : Nat} (hS : RS M n nd) (hO : RO M) : OpQ fX11_alike fX12_alike M := by
  obtain ⟨⟨h8, h6⟩, ⟨s1, s2, s3, s4⟩, hm, -, -⟩ := hS
  have eC : fX11_alike_L10 M 4000 9 0 0 0 = some (fd (akR (M.1 38) n) (9, 0, 0) n) := by
    rw [pX11_alike_out s1 h8, akR_congr (fun t ht => (hm t ht).1)]
  have eM : ∀ N, E12 M N → fX12_alike_L16 N 4000 1000000 (-1) (-1) 0 = some (fd (akR (M.1 38) n) (1000000, -1, -1) n) := fun N e => by
    rw [pX12_alike_out (by rw [e.2.1 1 rfl]; exact s2) h8, e.1 38 (by omega) (by omega) rfl]
  have hI := akI_all (m := M.1 38) (n := n) (fun t ht => (hm t ht).2)
  generalize fd (akR (M.1 38) n) (9, 0, 0) n = A at eC hI
  generalize fd (akR (M.1 38) n) (1000000, -1, -1) n = B at eM hI
  rcases hI with ⟨rfl, rfl⟩ | ⟨rfl, ⟨v, hv, e1⟩, ⟨a, ha, e2⟩, ⟨b, hb, e3⟩⟩
  · refine opR (r := -2) hO ?_ (fun N f => ?_)
    · unfold fX11_alike
      exact wpO_ek eC (wpO_pk (wpO_pk (wpO_fk (by decide) (wpO_ret ⟨rfl, FrC.refl M, rfl, rfl⟩))))
    · unfold fX12_alike
      exact wM_thrown (fun N0 f0 a1 a2 _ => wpO_ek (eM N0 ((E12.ofC f).fr f0)) (wpO_pk (wpO_pk (wpO_tk rfl (wpO_ret ⟨rfl, f0, a1, by rw [a2]⟩)))))
  · obtain ⟨x, y, z⟩ := A
    dsimp only at e1 e2 e3
    subst e1 e2 e3
    refine opQ (r := nI v) (l := [(nI a).toInt64, (nI b).toInt64, (M.1 38 a &&& M.1 38 b).toInt64]) (Nat.le_of_ble_eq_true rfl) ?_ (fun N f => ?_)
    · unfold fX11_alike
      refine wpO_ek eC (wpO_pk (wpO_pk (wpO_tk (show nI v ≤ 8 from leT (b := 8) hv (by omega)) (wC_begin (fun N1 f1 r1 => wC_tell r1 (Nat.le_of_ble_eq_true rfl) (fun N2 f2 r2 => wC_tell r2 (Nat.le_of_ble_eq_true rfl) (fun N3 f3 r3 => wpO_tk (zinT (show a < 8 by omega) (by omega)) (wpO_tk (zinT (show b < 8 by omega) (by omega)) ?_))))))))
      rw [nI_clamp (show a < 2 ^ 31 by omega), nI_clamp (show b < 2 ^ 31 by omega), ((f1.trans f2).trans f3).2.2.2.1 6 rfl, (hm a ha).1, (hm b hb).1]
      exact wC_tell r3 (Nat.le_of_ble_eq_true rfl) (fun N4 f4 r4 => wpO_ret ⟨rfl, ((f1.trans f2).trans f3).trans f4, r4⟩)
    · unfold fX12_alike
      refine wM_thrown (fun N0 f0 _ _ _ => wpO_ek (eM N0 ((E12.ofC f).fr f0)) (wpO_pk (wpO_pk (wpO_fk (show ¬ nI v = 1000000 from fun z => ?_) (wM_begin (fun N1 f1 r1 => wM_tell r1 (Nat.le_of_ble_eq_true rfl) (fun N2 f2 r2 => wM_tell r2 (Nat.le_of_ble_eq_true rfl) (fun N3 f3 r3 => wpO_tk (zinT (show a < 8 by omega) (by omega)) (wpO_tk (zinT (show b < 8 by omega) (by omega)) ?_)))))))))
      · have := (nI_eq (show v < 2 ^ 31 by omega) (show 1000000 < 2 ^ 31 by omega)).mp z
        omega
      · rw [nI_clamp (show a < 2 ^ 31 by omega), nI_clamp (show b < 2 ^ 31 by omega), ((E12.ofC f).fr (((f0.trans f1).trans f2).trans f3)).1 38 (by omega) (by omega) rfl]
        exact wM_tell r3 (Nat.le_of_ble_eq_true rfl) (fun N4 f4 r4 => wpO_ret ⟨rfl, (((f0.trans f1).trans f2).trans f3).trans f4, r4⟩)
/-! which it is: fits, ask -/
def sFit (M : zM) (n s : Nat) : Int32 := bsA (fun t => decide (∀ k, k < s → hasB (M.1 38 t) (M.1 52 k) = hasB (M.1 36 31) (nI k))) n
theorem isTrueOf_eq (x : Int32) (M : zM) : fX1_isTrueOf x M = if M.1 34 0 &&& (x ^^^ (-1)) = 0 ∧ M.1 34 1 &&& x = 0 then 1 else 0 := by
  unfold fX1_isTrueOf
  by_cases a : M.1 34 0 &&& (x ^^^ (-1)) = 0 <;> by_cases b : M.1 34 1 &&& x = 0 <;> simp [a, b]
theorem cFit {M N : zM} {n nd s : Nat} (hS : RS M n nd) (hs : s ≤ 12) (hH : ∀ m : Nat, m < 256 → ((M.1 34 0 &&& (nI m ^^^ (-1)) = 0 ∧ M.1 34 1 &&& nI m = 0) ↔ ∀ k, k < s → hasB (nI m) (M.1 52 k) = hasB (M.1 36 31) (nI k))) (f : FrC M N) : fX11_fittingThings N = some (sFit M n s) := by
  obtain ⟨⟨h8, h6⟩, ⟨s1, -⟩, hm, -, -⟩ := hS
  have e53 : N.1 5 3 = nI n := by rw [f.2.2.2.1 5 rfl]; exact s1
  have e6 : N.1 6 = M.1 6 := f.2.2.2.1 6 rfl
  have e34 : N.1 34 = M.1 34 := f.2.2.2.1 34 rfl
  unfold fX11_fittingThings
  rw [show fX11_fittingThings_L4 N 4000 0 0 = some (sFit M n s) from zfor (fun k (q : Int32 × Int32) => fX11_fittingThings_L4 N k q.1 q.2) (fun i => (bsA (fun t => decide (∀ k, k < s → hasB (M.1 38 t) (M.1 52 k) = hasB (M.1 36 31) (nI k))) i, nI i)) n _
    (fun k i hi => by
      have h1 : i < 2 ^ 31 := by omega
      obtain ⟨a1, m, hm2, a2⟩ := hm i hi
      have q := hH m hm2
      rw [← a2] at q
      simp only [fX11_fittingThings_L4, e53, if_neg (leF hi (by omega)), if_pos (zinT (show i < 8 by omega) h1), nI_clamp h1, nI_1, zlet, bsA, isTrueOf_eq, e6, e34, a1]
      by_cases c : ∀ k, k < s → hasB (M.1 38 i) (M.1 52 k) = hasB (M.1 36 31) (nI k)
      · rw [if_pos (q.mpr c), if_neg (by decide), if_pos (decide_eq_true c)]
      · rw [if_neg (fun z => c (q.mp z)), if_pos rfl, if_neg (fun z => c (of_decide_eq_true z))])
    (fun k => by simp only [fX11_fittingThings_L4, e53, if_pos (leT (Nat.le_refl n) (by omega))]; rfl)
    n 0 4000 (by omega) (by omega)]
  rfl
theorem has_eq (a b c d : Int32) : fX12_has a b = fX12_has c d ↔ hasB a b = hasB c d := by
  rw [has_has, has_has]
  cases hasB a b <;> cases hasB c d <;> simp
theorem mFit_in {N : zM} {s t : Nat} {x : Int32} (hs : N.1 36 32 = nI s) (h12 : s ≤ 12) (ht : t < 8) : fX12_fitting_L17 x (nI t) N 4000 1 0 = some (if ∀ k, k < s → hasB (N.1 38 t) (N.1 52 k) = hasB (N.1 36 31) (nI k) then 1 else 0) := by
  rw [show fX12_fitting_L17 x (nI t) N 4000 1 0 = some (if (∀ k, k < s → hasB (N.1 38 t) (N.1 52 k) = hasB (N.1 36 31) (nI k)) then 1 else 0) from zfor (fun k (q : Int32 × Int32) => fX12_fitting_L17 x (nI t) N k q.1 q.2) (fun i => ((if ∀ k, k < i → hasB (N.1 38 t) (N.1 52 k) = hasB (N.1 36 31) (nI k) then 1 else 0), nI i)) s _
    (fun k i hi => by
      have h1 : i < 2 ^ 31 := by omega
      simp only [fX12_fitting_L17, hs, if_neg (leF hi (by omega)), if_pos (zinT (show i < 12 by omega) h1), if_pos (zinT ht (by omega)), nI_clamp h1, nI_clamp (show t < 2 ^ 31 by omega), nI_1, has_eq]
      by_cases c : ∀ k, k < i → hasB (N.1 38 t) (N.1 52 k) = hasB (N.1 36 31) (nI k)
      · rw [if_pos c, if_neg (by decide)]
        by_cases d : hasB (N.1 38 t) (N.1 52 i) = hasB (N.1 36 31) (nI i)
        · rw [if_pos d, if_pos (fun k hk => by
            rcases Nat.lt_or_ge k i with z | z
            · exact c k z
            · have : k = i := by omega
              subst this
              exact d)]
          rfl
        · rw [if_neg d, if_neg (fun z => d (z i (by omega)))]
          rfl
      · rw [if_neg c, if_pos rfl, if_neg (fun z => c (fun k hk => z k (by omega)))]
        rfl)
    (fun k => by simp only [fX12_fitting_L17, hs, if_pos (leT (Nat.le_refl s) (by omega))])
    s 0 4000 (by omega) (by omega)]
theorem mFit {M N : zM} {n s : Nat} (hn : M.1 36 1 = nI n) (h8 : n ≤ 8) (hs : M.1 36 32 = nI s) (h12 : s ≤ 12) (e : E12 M N) : fX12_fitting N = some (sFit M n s) := by
  have e1 : N.1 36 1 = nI n := by rw [e.2.1 1 rfl]; exact hn
  have e2 : N.1 36 32 = nI s := by rw [e.2.1 32 rfl]; exact hs
  unfold fX12_fitting
  rw [show fX12_fitting_L4 N 4000 0 0 = some (sFit M n s) from zfor (fun k (q : Int32 × Int32) => fX12_fitting_L4 N k q.1 q.2) (fun i => (bsA (fun t => decide (∀ k, k < s → hasB (M.1 38 t) (M.1 52 k) = hasB (M.1 36 31) (nI k))) i, nI i)) n _
    (fun k i hi => by
      simp only [fX12_fitting_L4, e1, if_neg (leF hi (by omega)), mFit_in e2 h12 (show i < 8 by omega), Option.bind_some, nI_1, zlet, bsA, e.1 38 (by omega) (by omega) rfl, e.1 52 (by omega) (by omega) rfl, e.2.1 31 rfl]
      by_cases c : ∀ k, k < s → hasB (M.1 38 i) (M.1 52 k) = hasB (M.1 36 31) (nI k)
      · rw [if_pos c, if_neg (by decide), if_pos (decide_eq_true c)]
      · rw [if_neg c, if_pos rfl, if_neg (fun z => c (of_decide_eq_true z)), ior_0])
    (fun k => by simp only [fX12_fitting_L4, e1, if_pos (leT (Nat.le_refl n) (by omega))]; rfl)
    n 0 4000 (by omega) (by omega)]
  rfl
/-- MARKS that all fitting things have -/
def sBoth (M : zM) (n : Nat) (x : Int32) : Int32 := fd (fun t y => if hasB x (nI t) = true then y &&& M.1 38 t else y) 255 n
theorem and_self32 (x : Int32) : x &&& x = x := by
  apply b_ext
  intro i hi
  rw [b_and]
  simp
theorem op_fits {M : zM} {n nd : Nat} (hS : RS M n nd) (hH : RH M) : OpQ fX11_fits fX12_fits M := by
  obtain ⟨s, h12, h34, h36, -, hH⟩ := hH
  have hS0 := hS
  obtain ⟨⟨h8, h6⟩, ⟨s1, s2, s3, s4⟩, hm, -, -⟩ := hS
  have eC : ∀ x, fX11_fits_L11 x M 4000 255 0 = some (sBoth M n x) := fun x =>
    zfd (fun k (y : Int32) i => fX11_fits_L11 x M k y i) (fun t y => if hasB x (nI t) = true then y &&& M.1 38 t else y) (fun y => some y) 255 n (by omega)
      (fun k i y hi => by
        have h1 : i < 2 ^ 31 := by omega
        simp only [fX11_fits_L11, s1, if_neg (leF hi (by omega)), if_pos (zinT (show i < 8 by omega) h1), nI_clamp h1, nI_1, zlet, isOf_0, (hm i hi).1]
        by_cases hb : hasB x (nI i) = true <;> simp [hb])
      (fun k y => by simp only [fX11_fits_L11, s1, if_pos (leT (Nat.le_refl n) (by omega))])
  have eM : ∀ N, E12 M N → ∀ x, fX12_fits_L16 x N 4000 255 0 = some (sBoth M n x) := fun N e x => by
    have e1 : N.1 36 1 = nI n := by rw [e.2.1 1 rfl]; exact s2
    exact zfd (fun k (y : Int32) i => fX12_fits_L16 x N k y i) (fun t y => if hasB x (nI t) = true then y &&& M.1 38 t else y) (fun y => some y) 255 n (by omega)
      (fun k i y hi => by
        have h1 : i < 2 ^ 31 := by omega
        simp only [fX12_fits_L16, e1, if_neg (leF hi (by omega)), if_pos (zinT (show i < 8 by omega) h1), nI_clamp h1, nI_1, zlet, has_0, e.1 38 (by omega) (by omega) rfl]
        by_cases hb : hasB x (nI i) = true <;> simp [hb, and_self32])
      (fun k y => by simp only [fX12_fits_L16, e1, if_pos (leT (Nat.le_refl n) (by omega))])
  refine opQ (r := sFit M n s) (l := [(fJ6_bitCount_0f7a4 (sFit M n s)).toInt64, (sBoth M n (sFit M n s)).toInt64]) (Nat.le_of_ble_eq_true rfl) ?_ (fun N f => ?_)
  · unfold fX11_fits
    exact wpO_ek (cFit hS0 h12 hH (FrC.refl M)) (wpO_ek (eC _) (wC_begin (fun N1 f1 r1 => wC_tell r1 (Nat.le_of_ble_eq_true rfl) (fun N2 f2 r2 => wC_tell r2 (Nat.le_of_ble_eq_true rfl) (fun N3 f3 r3 => wpO_ret ⟨rfl, (f1.trans f2).trans f3, r3⟩)))))
  · unfold fX12_fits
    exact wM_thrown (fun N0 f0 _ _ _ => wpO_ek (mFit s2 h8 h36 h12 ((E12.ofC f).fr f0)) (wpO_ek (eM N0 ((E12.ofC f).fr f0) _) (wM_begin (fun N1 f1 r1 => wM_tell r1 (Nat.le_of_ble_eq_true rfl) (fun N2 f2 r2 => wM_tell r2 (Nat.le_of_ble_eq_true rfl) (fun N3 f3 r3 => wpO_ret ⟨rfl, ((f0.trans f1).trans f2).trans f3, r3⟩))))))
/-! how many bits two sets share -/
theorem bc_small {x : Int32} {v : Nat} (h : x = nI v) (hv : v < 256) : fJ6_bitCount_0f7a4 x = nI (pcN v) := by rw [h]; exact bc_nI v hv
def ct (p : Nat → Bool) : Nat → Nat
  | 0 => 0
  | n + 1 => ct p n + (if p n = true then 1 else 0)
theorem ct_congr {p q : Nat → Bool} : ∀ {n : Nat}, (∀ t, t < n → p t = q t) → ct p n = ct q n
  | 0, _ => rfl
  | n + 1, h => by
    show ct p n + _ = ct q n + _
    rw [ct_congr (fun t ht => h t (by omega)), h n (by omega)]
theorem ct_le (p : Nat → Bool) : ∀ n, ct p n ≤ n
  | 0 => Nat.le_refl 0
  | n + 1 => by
    have := ct_le p n
    show ct p n + (if p n = true then 1 else 0) ≤ n + 1
    split <;> omega
theorem tb_div (v i : Nat) : (if v.testBit i = true then 1 else 0) = v / 2 ^ i % 2 := by
  rw [Nat.testBit_eq_decide_div_mod_eq]
  have : v / 2 ^ i % 2 < 2 := Nat.mod_lt _ (by omega)
  by_cases h : v / 2 ^ i % 2 = 1
  · simp [h]
  · simp [h]; omega
theorem pc_ct (v : Nat) : pcN v = ct v.testBit 8 := by
  show pcN v = 0 + (if v.testBit 0 = true then 1 else 0) + (if v.testBit 1 = true then 1 else 0) + (if v.testBit 2 = true then 1 else 0) + (if v.testBit 3 = true then 1 else 0) + (if v.testBit 4 = true then 1 else 0) + (if v.testBit 5 = true then 1 else 0) + (if v.testBit 6 = true then 1 else 0) + (if v.testBit 7 = true then 1 else 0)
  simp only [tb_div]
  unfold pcN
  simp
theorem ct_more {p : Nat → Bool} {n : Nat} : ∀ {k : Nat}, (∀ t, n ≤ t → t < n + k → p t = false) → ct p (n + k) = ct p n
  | 0, _ => rfl
  | k + 1, h => by
    show ct p (n + k) + (if p (n + k) = true then 1 else 0) = _
    rw [h (n + k) (by omega) (by omega), if_neg (by decide)]
    exact ct_more (fun t h1 h2 => h t h1 (by omega))
/-- the bits of a small set, counted -/
theorem bc_bs {p : Nat → Bool} {n : Nat} (h8 : n ≤ 8) : fJ6_bitCount_0f7a4 (bsA p n) = nI (ct p n) := by
  obtain ⟨v, hv, e⟩ := bsN (p := p) (n := n) (by omega)
  have hv2 : v < 256 := Nat.lt_of_lt_of_le hv (Nat.pow_le_pow_right (n := 2) (by omega) h8)
  rw [bc_small e hv2, pc_ct]
  congr 1
  have hb : ∀ i, i < 32 → v.testBit i = (decide (i < n) && p i) := fun i hi => by rw [← bt_nI v hi, ← e, bt_bsA (by omega) hi]
  have e8 := ct_more (p := v.testBit) (n := n) (k := 8 - n) (fun t h1 h2 => by
    rw [hb t (by omega)]
    simp [show ¬ t < n by omega])
  rw [show n + (8 - n) = 8 by omega] at e8
  rw [e8]
  exact ct_congr (fun t ht => by rw [hb t (by omega)]; simp [ht])
