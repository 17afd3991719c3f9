/-! ask -/
theorem bsA_and (p q : Nat → Bool) {n : Nat} (hn : n ≤ 32) : bsA p n &&& bsA q n = bsA (fun t => p t && q t) n := by
  apply b_ext
  intro i hi
  rw [b_and, bt_bsA hn hi, bt_bsA hn hi, bt_bsA hn hi]
  by_cases h : i < n <;> simp [h]
theorem hasB_bsA {p : Nat → Bool} {n t : Nat} (hn : n ≤ 32) (ht : t < n) : hasB (bsA p n) (nI t) = p t := by
  rw [hasB_bt _ (by omega), bt_bsA hn (by omega)]
  simp [ht]
def akV (all : Int32) (c : Nat → Nat) (m : Nat) : Int32 := zmax (nI (c m)) (all - nI (c m))
def akF (all : Int32) (c : Nat → Nat) (m : Nat) (s : Int32 × Int32) : Int32 × Int32 := if akV all c m < s.2 then (nI m, akV all c m) else s
theorem nI_subN {a b : Nat} (h : b ≤ a) : nI a - nI b = nI (a - b) := pk_sub h
theorem zmax_nI {a b : Nat} (ha : a < 2 ^ 31) (hb : b < 2 ^ 31) : zmax (nI a) (nI b) = nI (max a b) := by
  unfold zmax
  by_cases h : a < b
  · rw [if_pos (ltT h hb)]; congr 1; omega
  · rw [if_neg (ltF (by omega) ha)]; congr 1; omega
theorem akV_eq {c : Nat → Nat} {a m : Nat} (h : c m ≤ a) (ha : a < 2 ^ 30) : akV (nI a) c m = nI (max (c m) (a - c m)) := by
  unfold akV
  rw [nI_subN h, zmax_nI (by omega) (by omega)]
def sC (M : zM) (n : Nat) (p : Nat → Bool) (m : Nat) : Nat := ct (fun t => p t && hasB (M.1 38 t) (nI m)) n
theorem ct_mono {p q : Nat → Bool} : ∀ {n : Nat}, (∀ t, t < n → p t = true → q t = true) → ct p n ≤ ct q n
  | 0, _ => Nat.le_refl 0
  | n + 1, h => by
    have ih := ct_mono (p := p) (q := q) (n := n) (fun t ht => h t (by omega))
    show ct p n + (if p n = true then 1 else 0) ≤ ct q n + (if q n = true then 1 else 0)
    by_cases hp : p n = true
    · rw [if_pos hp, if_pos (h n (by omega) hp)]; omega
    · rw [if_neg hp]; omega
theorem op_ask {M : zM} {n nd : Nat} (hS : RS M n nd) (hH : RH M) (hO : RO M) : OpQ fX11_ask fX12_ask M := by
  obtain ⟨s, h12, h34, h36, -, hH⟩ := hH
  have hS0 := hS
  obtain ⟨⟨h8, h6⟩, ⟨s1, s2, s3, s4⟩, hm, -, -⟩ := hS
  have eFc := cFit hS0 h12 hH (FrC.refl M)
  have eFm : ∀ N, E12 M N → fX12_fitting N = some (sFit M n s) := fun N e => mFit s2 h8 h36 h12 e
  by_cases h0 : sFit M n s = 0
  · refine opR (r := -2) hO ?_ (fun N f => ?_)
    · unfold fX11_ask
      exact wpO_ek eFc (wpO_tk h0 (wpO_ret ⟨rfl, FrC.refl M, rfl, rfl⟩))
    · unfold fX12_ask
      exact wM_thrown (fun N0 f0 a1 a2 _ => wpO_ek (eFm N0 ((E12.ofC f).fr f0)) (wpO_tk h0 (wpO_ret ⟨rfl, f0, a1, by rw [a2]⟩)))
  · obtain ⟨p, hp⟩ : ∃ p : Nat → Bool, sFit M n s = bsA p n := ⟨_, rfl⟩
    have eb : fJ6_bitCount_0f7a4 (sFit M n s) = nI (ct p n) := by rw [hp, bc_bs h8]
    have hle := ct_le p n
    have hcm : ∀ m, sC M n p m ≤ ct p n := fun m => ct_mono (fun t _ h => by simp at h; exact h.1)
    have eC : fX11_ask_L27 (sFit M n s) (nI (ct p n)) M 4000 0 (nI (ct p n + 1)) 0 = some (fd (akF (nI (ct p n)) (sC M n p)) (0, nI (ct p n + 1)) 8) :=
      zfd (fun k (s' : Int32 × Int32) i => fX11_ask_L27 (sFit M n s) (nI (ct p n)) M k s'.1 s'.2 i) (akF (nI (ct p n)) (sC M n p)) (fun y => some y) (0, nI (ct p n + 1)) 8 (by omega)
        (fun k i y hi => by
          have e1 : fJ6_bitCount_0f7a4 (sFit M n s &&& bsA (fun t => hasB (M.1 6 t) (nI i)) n) = nI (sC M n p i) := by
            rw [hp, bsA_and _ _ (by omega), bc_bs h8]
            exact congrArg nI (ct_congr (fun t ht => by rw [(hm t ht).1]))
          simp only [fX11_ask_L27, if_neg (show ¬ 8 ≤ nI i from leF (a := 8) hi (by omega)), pX7_thingsMarked s1 h8, Option.bind_some, zlet, e1, nI_1, ite_le, akF, akV]
          by_cases cc : zmax (nI (sC M n p i)) (nI (ct p n) - nI (sC M n p i)) < y.2 <;> simp [cc])
        (fun k y => by simp only [fX11_ask_L27, if_pos (show 8 ≤ nI 8 from leT (a := 8) (Nat.le_refl 8) (by omega))])
    have eMi : ∀ N, E12 M N → ∀ (x2 x3 : Int32) (m : Nat), m < 8 → fX12_ask_L39 (sFit M n s) x2 x3 (nI m) N 4000 0 0 = some (nI (sC M n p m)) := fun N e x2 x3 m hm8 => by
      have e1 : N.1 36 1 = nI n := by rw [e.2.1 1 rfl]; exact s2
      rw [show fX12_ask_L39 (sFit M n s) x2 x3 (nI m) N 4000 0 0 = some (nI (sC M n p m)) from zfor (fun k (q : Int32 × Int32) => fX12_ask_L39 (sFit M n s) x2 x3 (nI m) N k q.1 q.2) (fun i => (nI (ct (fun t => p t && hasB (M.1 38 t) (nI m)) i), nI i)) n _
        (fun k i hi => by
          have h1 : i < 2 ^ 31 := by omega
          simp only [fX12_ask_L39, e1, if_neg (leF hi (by omega)), if_pos (zinT (show i < 8 by omega) h1), nI_clamp h1, nI_1, zlet, has_0, hp, hasB_bsA (show n ≤ 32 by omega) hi, e.1 38 (by omega) (by omega) rfl, ct]
          by_cases b1 : p i = true <;> by_cases b2 : hasB (M.1 38 i) (nI m) = true <;> simp [b1, b2, iadd_0, nI_1])
        (fun k => by simp only [fX12_ask_L39, e1, if_pos (leT (Nat.le_refl n) (by omega))]; rfl)
        n 0 4000 (by omega) (by omega)]
    have eM : ∀ N, E12 M N → fX12_ask_L26 (sFit M n s) N 4000 (-1) 1000000 0 = some (fd (akF (nI (ct p n)) (sC M n p)) (-1, 1000000) 8) := fun N e =>
      zfd (fun k (s' : Int32 × Int32) i => fX12_ask_L26 (sFit M n s) N k s'.1 s'.2 i) (akF (nI (ct p n)) (sC M n p)) (fun y => some y) (-1, 1000000) 8 (by omega)
        (fun k i y hi => by
          simp only [fX12_ask_L26, if_neg (show ¬ 8 ≤ nI i from leF (a := 8) hi (by omega)), eMi N e _ _ i hi, Option.bind_some, zlet, eb, nI_1, akF, akV]
          by_cases cc : zmax (nI (sC M n p i)) (nI (ct p n) - nI (sC M n p i)) < y.2 <;> simp [cc])
        (fun k y => by simp only [fX12_ask_L26, if_pos (show 8 ≤ nI 8 from leT (a := 8) (Nat.le_refl 8) (by omega))])
    have hR := fd_rel (f := akF (nI (ct p n)) (sC M n p)) (g := akF (nI (ct p n)) (sC M n p)) (s := ((0, nI (ct p n + 1)) : Int32 × Int32)) (t := ((-1, 1000000) : Int32 × Int32)) (fun i x y => (i = 0 ∧ x = (0, nI (ct p n + 1)) ∧ y = (-1, 1000000)) ∨ x = y) (Or.inl ⟨rfl, rfl, rfl⟩) (n := 8) (fun i x y hi h => by
      rcases h with ⟨rfl, rfl, rfl⟩ | rfl
      · refine Or.inr ?_
        have hv := hcm 0
        unfold akF
        rw [akV_eq hv (by omega), if_pos (ltT (by omega) (by omega)), if_pos (show nI (max (sC M n p 0) (ct p n - sC M n p 0)) < 1000000 from ltT (b := 1000000) (by omega) (by omega))]
      · exact Or.inr rfl)
    have hE : fd (akF (nI (ct p n)) (sC M n p)) (0, nI (ct p n + 1)) 8 = fd (akF (nI (ct p n)) (sC M n p)) (-1, 1000000) 8 := by
      rcases hR with ⟨h, -⟩ | h
      · cases h
      · exact h
    rw [hE] at eC
    generalize fd (akF (nI (ct p n)) (sC M n p)) (-1, 1000000) 8 = A at eC eM
    refine opQ (r := A.1) (l := [A.2.toInt64]) (Nat.le_of_ble_eq_true rfl) ?_ (fun N f => ?_)
    · unfold fX11_ask
      refine wpO_ek eFc (wpO_fk h0 (wpO_lk (wpO_lk ?_)))
      rw [eb, nI_1]
      exact wpO_ek eC (wpO_pk (wC_begin (fun N1 f1 r1 => wC_tell r1 (Nat.le_of_ble_eq_true rfl) (fun N2 f2 r2 => wpO_ret ⟨rfl, f1.trans f2, r2⟩))))
    · unfold fX12_ask
      exact wM_thrown (fun N0 f0 _ _ _ => wpO_ek (eFm N0 ((E12.ofC f).fr f0)) (wpO_fk h0 (wpO_ek (eM N0 ((E12.ofC f).fr f0)) (wpO_pk (wM_begin (fun N1 f1 r1 => wM_tell r1 (Nat.le_of_ble_eq_true rfl) (fun N2 f2 r2 => wpO_ret ⟨rfl, (f0.trans f1).trans f2, r2⟩)))))))
/-! tellsApart -/
theorem zfind {β : Type} (L : Nat → Int32 → Option β) (c : Nat → Prop) (A B : Option β) (a N m : Nat) (ha : a ≤ N) (hm : N < m) (h1 : ∀ n i, a ≤ i → i < N → c i → L (n + 1) (nI i) = A) (h2 : ∀ n i, a ≤ i → i < N → ¬ c i → L (n + 1) (nI i) = L n (nI (i + 1))) (h3 : ∀ n, L (n + 1) (nI N) = B) : ((∃ i, a ≤ i ∧ i < N ∧ c i) → L m (nI a) = A) ∧ ((∀ i, a ≤ i → i < N → ¬ c i) → L m (nI a) = B) := by
  have key : ∀ k i n, i + k = N → a ≤ i → k < n → ((∃ j, i ≤ j ∧ j < N ∧ c j) → L n (nI i) = A) ∧ ((∀ j, i ≤ j → j < N → ¬ c j) → L n (nI i) = B) := by
    intro k
    induction k with
    | zero =>
      intro i n hi hai hn
      obtain ⟨n, rfl⟩ : ∃ q, n = q + 1 := ⟨n - 1, by omega⟩
      have : i = N := by omega
      subst this
      exact ⟨fun ⟨j, a1, a2, _⟩ => by omega, fun _ => h3 n⟩
    | succ k ih =>
      intro i n hi hai hn
      obtain ⟨n, rfl⟩ : ∃ q, n = q + 1 := ⟨n - 1, by omega⟩
      obtain ⟨b1, b2⟩ := ih (i + 1) n (by omega) (by omega) (by omega)
      by_cases hc : c i
      · exact ⟨fun _ => h1 n i hai (by omega) hc, fun h => absurd hc (h i (Nat.le_refl i) (by omega))⟩
      · rw [h2 n i hai (by omega) hc]
        refine ⟨fun ⟨j, a1, a2, a3⟩ => b1 ⟨j, ?_, a2, a3⟩, fun h => b2 (fun j a1 a2 => h j (by omega) a2)⟩
        rcases Nat.lt_or_ge i j with z | z
        · exact z
        · have : j = i := by omega
          subst this
          exact absurd a3 hc
  exact key (N - a) a m (by omega) (Nat.le_refl a) (by omega)
def dif (m : Nat → Int32) (x : Int32) (n : Nat) : Bool := decide (∀ a, a < n → ∀ b, b < n → a < b → ¬ (m a ^^^ m b) &&& x = 0)
theorem xor_and (a b x : Int32) : a &&& x = b &&& x ↔ (a ^^^ b) &&& x = 0 := by
  constructor
  · intro h
    apply b_ext
    intro i hi
    have := congrArg (fun z => bt z i) h
    simp only [b_and] at this
    rw [b_and, b_xor, b_0]
    revert this
    cases bt a i <;> cases bt b i <;> cases bt x i <;> simp
  · intro h
    apply b_ext
    intro i hi
    have := congrArg (fun z => bt z i) h
    simp only [b_and, b_xor, b_0] at this
    rw [b_and, b_and]
    revert this
    cases bt a i <;> cases bt b i <;> cases bt x i <;> simp
theorem pX7_allDifferIn {x : Int32} {M : zM} {n : Nat} (hn : M.1 5 3 = nI n) (h8 : n ≤ 8) : fX7_allDifferIn x M = some (if dif (M.1 6) x n = true then 1 else 0) := by
  have hin : ∀ a, a < n → ((∃ i, a + 1 ≤ i ∧ i < n ∧ (M.1 6 a ^^^ M.1 6 i) &&& x = 0) → fX7_allDifferIn_L14 x (nI a) M 4000 (nI (a + 1)) = some (.inl 0)) ∧ ((∀ i, a + 1 ≤ i → i < n → ¬ (M.1 6 a ^^^ M.1 6 i) &&& x = 0) → fX7_allDifferIn_L14 x (nI a) M 4000 (nI (a + 1)) = some (.inr ())) := fun a ha =>
    zfind (fun k i => fX7_allDifferIn_L14 x (nI a) M k i) (fun i => (M.1 6 a ^^^ M.1 6 i) &&& x = 0) _ _ (a + 1) n 4000 (by omega) (by omega)
      (fun k i h1 h2 hc => by simp only [fX7_allDifferIn_L14, hn, if_neg (leF h2 (by omega)), if_pos (zinT (show a < 8 by omega) (by omega)), if_pos (zinT (show i < 8 by omega) (by omega)), nI_clamp (show a < 2 ^ 31 by omega), nI_clamp (show i < 2 ^ 31 by omega), if_pos hc])
      (fun k i h1 h2 hc => by simp only [fX7_allDifferIn_L14, hn, if_neg (leF h2 (by omega)), if_pos (zinT (show a < 8 by omega) (by omega)), if_pos (zinT (show i < 8 by omega) (by omega)), nI_clamp (show a < 2 ^ 31 by omega), nI_clamp (show i < 2 ^ 31 by omega), if_neg hc, nI_1])
      (fun k => by simp only [fX7_allDifferIn_L14, hn, if_pos (leT (Nat.le_refl n) (by omega))])
  have hout := zfind (fun k i => fX7_allDifferIn_L2 x M k i) (fun a => ∃ i, a + 1 ≤ i ∧ i < n ∧ (M.1 6 a ^^^ M.1 6 i) &&& x = 0) (some (.inl 0)) (some (.inr ())) 0 n 4000 (by omega) (by omega)
      (fun k a h1 h2 hc => by simp only [fX7_allDifferIn_L2, hn, if_neg (leF h2 (by omega)), zlet, nI_1, (hin a h2).1 hc, Option.bind_some, zs])
      (fun k a h1 h2 hc => by simp only [fX7_allDifferIn_L2, hn, if_neg (leF h2 (by omega)), zlet, nI_1, (hin a h2).2 (fun i b1 b2 b3 => hc ⟨i, b1, b2, b3⟩), Option.bind_some, zs])
      (fun k => by simp only [fX7_allDifferIn_L2, hn, if_pos (leT (Nat.le_refl n) (by omega))])
  unfold fX7_allDifferIn
  by_cases hd : ∀ a, a < n → ∀ b, b < n → a < b → ¬ (M.1 6 a ^^^ M.1 6 b) &&& x = 0
  · have e : fX7_allDifferIn_L2 x M 4000 0 = some (.inr ()) := hout.2 (fun a _ ha ⟨i, b1, b2, b3⟩ => hd a ha i b2 (by omega) b3)
    rw [e, if_pos (show dif (M.1 6) x n = true from decide_eq_true hd)]
    rfl
  · have e : fX7_allDifferIn_L2 x M 4000 0 = some (.inl 0) := hout.1 (by
      have hd2 : ∃ a, a < n ∧ ∃ b, b < n ∧ a < b ∧ (M.1 6 a ^^^ M.1 6 b) &&& x = 0 := by
        apply Classical.byContradiction
        intro z
        exact hd (fun a ha b hb hab q => z ⟨a, ha, b, hb, hab, q⟩)
      obtain ⟨a, ha, b, hb, hab, q⟩ := hd2
      exact ⟨a, Nat.zero_le a, ha, b, by omega, hb, q⟩)
    rw [e, if_neg (show ¬ dif (M.1 6) x n = true from fun z => hd (of_decide_eq_true z))]
    rfl
theorem pX12_doTell {x : Int32} {M : zM} {n : Nat} (hn : M.1 36 1 = nI n) (h8 : n ≤ 8) : fX12_doTell x M = some (if dif (M.1 38) x n = true then 1 else 0) := by
  have hin : ∀ a, a < n → ((∃ i, a + 1 ≤ i ∧ i < n ∧ (M.1 38 a ^^^ M.1 38 i) &&& x = 0) → fX12_doTell_L14 x (nI a) M 4000 (nI (a + 1)) = some (.inl 0)) ∧ ((∀ i, a + 1 ≤ i → i < n → ¬ (M.1 38 a ^^^ M.1 38 i) &&& x = 0) → fX12_doTell_L14 x (nI a) M 4000 (nI (a + 1)) = some (.inr ())) := fun a ha =>
    zfind (fun k i => fX12_doTell_L14 x (nI a) M k i) (fun i => (M.1 38 a ^^^ M.1 38 i) &&& x = 0) _ _ (a + 1) n 4000 (by omega) (by omega)
      (fun k i h1 h2 hc => by simp only [fX12_doTell_L14, hn, if_neg (leF h2 (by omega)), if_pos (zinT (show a < 8 by omega) (by omega)), if_pos (zinT (show i < 8 by omega) (by omega)), nI_clamp (show a < 2 ^ 31 by omega), nI_clamp (show i < 2 ^ 31 by omega), xor_and, if_pos hc])
      (fun k i h1 h2 hc => by simp only [fX12_doTell_L14, hn, if_neg (leF h2 (by omega)), if_pos (zinT (show a < 8 by omega) (by omega)), if_pos (zinT (show i < 8 by omega) (by omega)), nI_clamp (show a < 2 ^ 31 by omega), nI_clamp (show i < 2 ^ 31 by omega), xor_and, if_neg hc, nI_1])
      (fun k => by simp only [fX12_doTell_L14, hn, if_pos (leT (Nat.le_refl n) (by omega))])
  have hout := zfind (fun k i => fX12_doTell_L2 x M k i) (fun a => ∃ i, a + 1 ≤ i ∧ i < n ∧ (M.1 38 a ^^^ M.1 38 i) &&& x = 0) (some (.inl 0)) (some (.inr ())) 0 n 4000 (by omega) (by omega)
      (fun k a h1 h2 hc => by simp only [fX12_doTell_L2, hn, if_neg (leF h2 (by omega)), zlet, nI_1, (hin a h2).1 hc, Option.bind_some, zs])
      (fun k a h1 h2 hc => by simp only [fX12_doTell_L2, hn, if_neg (leF h2 (by omega)), zlet, nI_1, (hin a h2).2 (fun i b1 b2 b3 => hc ⟨i, b1, b2, b3⟩), Option.bind_some, zs])
      (fun k => by simp only [fX12_doTell_L2, hn, if_pos (leT (Nat.le_refl n) (by omega))])
  unfold fX12_doTell
  by_cases hd : ∀ a, a < n → ∀ b, b < n → a < b → ¬ (M.1 38 a ^^^ M.1 38 b) &&& x = 0
  · have e : fX12_doTell_L2 x M 4000 0 = some (.inr ()) := hout.2 (fun a _ ha ⟨i, b1, b2, b3⟩ => hd a ha i b2 (by omega) b3)
    rw [e, if_pos (show dif (M.1 38) x n = true from decide_eq_true hd)]
    rfl
  · have e : fX12_doTell_L2 x M 4000 0 = some (.inl 0) := hout.1 (by
      have hd2 : ∃ a, a < n ∧ ∃ b, b < n ∧ a < b ∧ (M.1 38 a ^^^ M.1 38 b) &&& x = 0 := by
        apply Classical.byContradiction
        intro z
        exact hd (fun a ha b hb hab q => z ⟨a, ha, b, hb, hab, q⟩)
      obtain ⟨a, ha, b, hb, hab, q⟩ := hd2
      exact ⟨a, Nat.zero_le a, ha, b, by omega, hb, q⟩)
    rw [e, if_neg (show ¬ dif (M.1 38) x n = true from fun z => hd (of_decide_eq_true z))]
    rfl
def taC (m : Nat → Int32) (n k : Nat) (s : Int32 × Int32) : Int32 × Int32 := if fJ6_bitCount_0f7a4 (nI k) < s.2 ∧ dif m (nI k) n = true then (nI k, fJ6_bitCount_0f7a4 (nI k)) else s
def taM (m : Nat → Int32) (n k : Nat) (y : Int32) : Int32 := if (y = -1 ∨ fJ6_bitCount_0f7a4 (nI k) < fJ6_bitCount_0f7a4 y) ∧ dif m (nI k) n = true then nI k else y
theorem dif_congr {m k : Nat → Int32} {n : Nat} (h : ∀ t, t < n → m t = k t) (x : Int32) : dif m x n = dif k x n := by
  unfold dif
  apply decide_eq_decide.mpr
  constructor
  · intro q a ha b hb hab
    rw [← h a ha, ← h b hb]
    exact q a ha b hb hab
  · intro q a ha b hb hab
    rw [h a ha, h b hb]
    exact q a ha b hb hab
theorem op_tellsApart {M : zM} {n nd : Nat} (hS : RS M n nd) (hO : RO M) : OpQ fX11_tellsApart fX12_tellsApart M := by
  obtain ⟨⟨h8, h6⟩, ⟨s1, s2, s3, s4⟩, hm, -, -⟩ := hS
  have eC : fX11_tellsApart_L7 M 4000 (-1) 9 0 = some (fd (taC (M.1 38) n) (-1, 9) 256) :=
    zfd (fun k (s : Int32 × Int32) i => fX11_tellsApart_L7 M k s.1 s.2 i) (taC (M.1 38) n) (fun y => some y) (-1, 9) 256 (by omega)
      (fun k i y hi => by
        simp only [fX11_tellsApart_L7, if_neg (show ¬ 256 ≤ nI i from leF (a := 256) hi (by omega)), zlet, pX7_allDifferIn s1 h8, dif_congr (fun t ht => (hm t ht).1), Option.bind_some, ite_le, nI_1, taC]
        by_cases c1 : fJ6_bitCount_0f7a4 (nI i) < y.2 <;> by_cases c2 : dif (M.1 38) (nI i) n = true <;> simp [c1, c2, zp])
      (fun k y => by simp only [fX11_tellsApart_L7, if_pos (show 256 ≤ nI 256 from leT (a := 256) (Nat.le_refl 256) (by omega))])
  have eM : ∀ N, E12 M N → fX12_tellsApart_L9 N 4000 (-1) 0 = some (fd (taM (M.1 38) n) (-1) 256) := fun N e => by
    have e1 : N.1 36 1 = nI n := by rw [e.2.1 1 rfl]; exact s2
    exact zfd (fun k (y : Int32) i => fX12_tellsApart_L9 N k y i) (taM (M.1 38) n) (fun y => some y) (-1) 256 (by omega)
      (fun k i y hi => by
        simp only [fX12_tellsApart_L9, if_neg (show ¬ 256 ≤ nI i from leF (a := 256) hi (by omega)), pX12_doTell e1 h8, e.1 38 (by omega) (by omega) rfl, Option.bind_some, ite_le, nI_1, taM]
        by_cases c0 : y = -1 <;> by_cases c1 : fJ6_bitCount_0f7a4 (nI i) < fJ6_bitCount_0f7a4 y <;> by_cases c2 : dif (M.1 38) (nI i) n = true <;> simp [c0, c1, c2])
      (fun k y => by simp only [fX12_tellsApart_L9, if_pos (show 256 ≤ nI 256 from leT (a := 256) (Nat.le_refl 256) (by omega))])
  have hR := fd_rel (f := taC (M.1 38) n) (g := taM (M.1 38) n) (s := ((-1, 9) : Int32 × Int32)) (t := (-1 : Int32)) (fun _ x y => (x = (-1, 9) ∧ y = -1) ∨ ∃ m : Nat, m < 256 ∧ x = (nI m, fJ6_bitCount_0f7a4 (nI m)) ∧ y = nI m) (Or.inl ⟨rfl, rfl⟩) (n := 256) (fun i x y hi h => by
    rcases h with ⟨rfl, rfl⟩ | ⟨m, hm, rfl, rfl⟩
    · unfold taC taM
      have hb : fJ6_bitCount_0f7a4 (nI i) < 9 := by rw [bc_nI i hi]; exact ltT (b := 9) (by have := pcN_le i; omega) (by omega)
      by_cases c : dif (M.1 38) (nI i) n = true
      · rw [if_pos ⟨hb, c⟩, if_pos ⟨Or.inl rfl, c⟩]
        exact Or.inr ⟨i, hi, rfl, rfl⟩
      · rw [if_neg (fun z => c z.2), if_neg (fun z => c z.2)]
        exact Or.inl ⟨rfl, rfl⟩
    · unfold taC taM
      have hne : ¬ nI m = -1 := fun z => nI_ne_m1 (show m < 2 ^ 31 by omega) z.symm
      by_cases c : fJ6_bitCount_0f7a4 (nI i) < fJ6_bitCount_0f7a4 (nI m) ∧ dif (M.1 38) (nI i) n = true
      · rw [if_pos c, if_pos ⟨Or.inr c.1, c.2⟩]
        exact Or.inr ⟨i, hi, rfl, rfl⟩
      · rw [if_neg c, if_neg (fun z => c ⟨z.1.resolve_left hne, z.2⟩)]
        exact Or.inr ⟨m, hm, rfl, rfl⟩)
  generalize fd (taC (M.1 38) n) (-1, 9) 256 = A at eC hR
  generalize fd (taM (M.1 38) n) (-1) 256 = B at eM hR
  rcases hR with ⟨rfl, rfl⟩ | ⟨m, hm2, rfl, rfl⟩
  · refine opR (r := -2) hO ?_ (fun N f => ?_)
    · unfold fX11_tellsApart
      exact wpO_ek eC (wpO_pk (wpO_fk (by decide) (wpO_ret ⟨rfl, FrC.refl M, rfl, rfl⟩)))
    · unfold fX12_tellsApart
      exact wM_thrown (fun N0 f0 a1 a2 _ => wpO_ek (eM N0 ((E12.ofC f).fr f0)) (wpO_tk rfl (wpO_ret ⟨rfl, f0, a1, by rw [a2]⟩)))
  · refine opQ (r := fJ6_bitCount_0f7a4 (nI m)) (l := [(nI m).toInt64]) (Nat.le_of_ble_eq_true rfl) ?_ (fun N f => ?_)
    · unfold fX11_tellsApart
      exact wpO_ek eC (wpO_pk (wpO_tk (nI_pos' (by omega)) (wC_begin (fun N1 f1 r1 => wC_tell r1 (Nat.le_of_ble_eq_true rfl) (fun N2 f2 r2 => wpO_ret ⟨rfl, f1.trans f2, r2⟩)))))
    · unfold fX12_tellsApart
      exact wM_thrown (fun N0 f0 _ _ _ => wpO_ek (eM N0 ((E12.ofC f).fr f0)) (wpO_fk (fun z => nI_ne_m1 (show m < 2 ^ 31 by omega) z.symm) (wM_begin (fun N1 f1 r1 => wM_tell r1 (Nat.le_of_ble_eq_true rfl) (fun N2 f2 r2 => wpO_ret ⟨rfl, (f0.trans f1).trans f2, r2⟩)))))
