/-! loops as folds -/
def fd {σ : Type} (f : Nat → σ → σ) (s : σ) : Nat → σ
  | 0 => s
  | n + 1 => f n (fd f s n)
theorem fd_congr {σ : Type} {f g : Nat → σ → σ} {s : σ} : ∀ {n : Nat}, (∀ i z, i < n → f i z = g i z) → fd f s n = fd g s n
  | 0, _ => rfl
  | n + 1, h => by
    show f n (fd f s n) = g n (fd g s n)
    rw [fd_congr (fun i z hi => h i z (by omega)), h n _ (by omega)]
theorem fd_rel {σ τ : Type} {f : Nat → σ → σ} {g : Nat → τ → τ} {s : σ} {t : τ} (R : Nat → σ → τ → Prop) (h0 : R 0 s t) : ∀ {n : Nat}, (∀ i x y, i < n → R i x y → R (i + 1) (f i x) (g i y)) → R n (fd f s n) (fd g t n)
  | 0, _ => h0
  | n + 1, h => h n _ _ (by omega) (fd_rel R h0 (fun i x y hi => h i x y (by omega)))
theorem fd_inv {σ : Type} {f : Nat → σ → σ} {s : σ} (P : Nat → σ → Prop) (h0 : P 0 s) : ∀ {n : Nat}, (∀ i x, i < n → P i x → P (i + 1) (f i x)) → P n (fd f s n)
  | 0, _ => h0
  | n + 1, h => h n _ (by omega) (fd_inv P h0 (fun i x hi => h i x (by omega)))
/-- a loop from a on up to N is a fold; P holds of its state -/
theorem zfdA {σ β : Type} (L : Nat → σ → Int32 → Option β) (f : Nat → σ → σ) (g : σ → Option β) (P : Nat → σ → Prop) (s0 : σ) (a N m : Nat) (ha : a ≤ N) (hm : N < m) (h0 : P a s0) (hp : ∀ i s, a ≤ i → i < N → P i s → P (i + 1) (f i s)) (hs : ∀ n i s, a ≤ i → i < N → P i s → L (n + 1) s (nI i) = L n (f i s) (nI (i + 1))) (he : ∀ n s, P N s → L (n + 1) s (nI N) = g s) : L m s0 (nI a) = g (fd (fun i => f (a + i)) s0 (N - a)) := by
  have key : ∀ k i n s, i + k = N → a ≤ i → k < n → P i s → L n s (nI i) = g (fd (fun j => f (i + j)) s k) := by
    intro k
    induction k with
    | zero =>
      intro i n s hi hai hn hP
      obtain ⟨n, rfl⟩ : ∃ q, n = q + 1 := ⟨n - 1, by omega⟩
      have : i = N := by omega
      subst this
      exact he n s hP
    | succ k ih =>
      intro i n s hi hai hn hP
      obtain ⟨n, rfl⟩ : ∃ q, n = q + 1 := ⟨n - 1, by omega⟩
      rw [hs n i s hai (by omega) hP, ih (i + 1) n _ (by omega) (by omega) (by omega) (hp i s hai (by omega) hP)]
      congr 1
      have : ∀ k, fd (fun j => f (i + 1 + j)) (f i s) k = fd (fun j => f (i + j)) s (k + 1) := by
        intro k
        induction k with
        | zero => rfl
        | succ k ih2 =>
          show f (i + 1 + k) (fd (fun j => f (i + 1 + j)) (f i s) k) = f (i + (k + 1)) (fd (fun j => f (i + j)) s (k + 1))
          rw [ih2, show i + 1 + k = i + (k + 1) by omega]
      exact this k
  exact key (N - a) a m s0 (by omega) (Nat.le_refl a) (by omega) h0
theorem zfd {σ β : Type} (L : Nat → σ → Int32 → Option β) (f : Nat → σ → σ) (g : σ → Option β) (s0 : σ) (N : Nat) (hm : N < 4000) (hs : ∀ n i s, i < N → L (n + 1) s (nI i) = L n (f i s) (nI (i + 1))) (he : ∀ n s, L (n + 1) s (nI N) = g s) : L 4000 s0 0 = g (fd f s0 N) := by
  have h := zfdA L f g (fun _ _ => True) s0 0 N 4000 (Nat.zero_le N) hm trivial (fun _ _ _ _ _ => trivial) (fun n i s _ hi _ => hs n i s hi) (fun n s _ => he n s)
  rw [Nat.sub_zero] at h
  have e : fd (fun i => f (0 + i)) s0 N = fd f s0 N := fd_congr (fun i z _ => by rw [Nat.zero_add])
  rw [e] at h
  exact h
theorem zfdP {σ β : Type} (L : Nat → σ → Int32 → Option β) (f : Nat → σ → σ) (g : σ → Option β) (P : Nat → σ → Prop) (s0 : σ) (N : Nat) (hm : N < 4000) (h0 : P 0 s0) (hp : ∀ i s, i < N → P i s → P (i + 1) (f i s)) (hs : ∀ n i s, i < N → P i s → L (n + 1) s (nI i) = L n (f i s) (nI (i + 1))) (he : ∀ n s, P N s → L (n + 1) s (nI N) = g s) : L 4000 s0 0 = g (fd f s0 N) := by
  have h := zfdA L f g P s0 0 N 4000 (Nat.zero_le N) hm h0 (fun i s _ hi q => hp i s hi q) (fun n i s _ hi q => hs n i s hi q) he
  rw [Nat.sub_zero] at h
  have e : fd (fun i => f (0 + i)) s0 N = fd f s0 N := fd_congr (fun i z _ => by rw [Nat.zero_add])
  rw [e] at h
  exact h
theorem ile_nlt (x y : Int32) : ¬ x ≤ y ↔ y < x := by
  rw [Int32.le_iff_toInt_le, Int32.lt_iff_toInt_lt]
  omega
theorem ilt_nle (x y : Int32) : ¬ x < y ↔ y ≤ x := by
  rw [Int32.le_iff_toInt_le, Int32.lt_iff_toInt_lt]
  omega
/-- "if not more": both ways of asking -/
theorem ite_le {α : Type} (x y : Int32) (a b : α) : (if x ≤ y then a else b) = if y < x then b else a := by
  by_cases h : x ≤ y
  · rw [if_pos h, if_neg (fun z => (ile_nlt x y).mpr z h)]
  · rw [if_neg h, if_pos ((ile_nlt x y).mp h)]
/-! how many bits -/
def pcN (v : Nat) : Nat := (v % 2) + (v / 2 % 2) + (v / 4 % 2) + (v / 8 % 2) + (v / 16 % 2) + (v / 32 % 2) + (v / 64 % 2) + (v / 128 % 2)
theorem bc_nI : ∀ v, v < 256 → fJ6_bitCount_0f7a4 (nI v) = nI (pcN v) := by decide +kernel
theorem pcN_le (v : Nat) : pcN v ≤ 8 := by unfold pcN; omega
theorem nI_xor (a b : Nat) : nI a ^^^ nI b = nI (a ^^^ b) := by
  apply b_ext
  intro i hi
  rw [b_xor, bt_nI _ hi, bt_nI _ hi, bt_nI _ hi, Nat.testBit_xor]
theorem nI_and (a b : Nat) : nI a &&& nI b = nI (a &&& b) := by
  apply b_ext
  intro i hi
  rw [b_and, bt_nI _ hi, bt_nI _ hi, bt_nI _ hi, Nat.testBit_and]
theorem nI_or (a b : Nat) : nI a ||| nI b = nI (a ||| b) := by
  apply b_ext
  intro i hi
  rw [b_or, bt_nI _ hi, bt_nI _ hi, bt_nI _ hi, Nat.testBit_or]
theorem bsN {p : Nat → Bool} : ∀ {n : Nat}, n ≤ 31 → ∃ v, v < 2 ^ n ∧ bsA p n = nI v
  | 0, _ => ⟨0, by decide, rfl⟩
  | n + 1, h => by
    obtain ⟨v, hv, e⟩ := bsN (p := p) (n := n) (by omega)
    show ∃ w, w < 2 ^ (n + 1) ∧ (if p n = true then bsA p n ||| zshl 1 (nI n) else bsA p n) = nI w
    by_cases hp : p n = true
    · refine ⟨v ||| 2 ^ n, Nat.or_lt_two_pow (Nat.lt_of_lt_of_le hv (Nat.pow_le_pow_right (by omega) (by omega))) (Nat.pow_lt_pow_right (by omega) (by omega)), ?_⟩
      rw [if_pos hp, e, ← nI_or]
      congr 1
      apply b_ext
      intro i hi
      rw [bt_shl1 (by omega) hi, bt_nI _ hi, Nat.testBit_two_pow]
      by_cases q : i = n
      · simp [q]
      · simp [q, show ¬ n = i from fun z => q z.symm]
    · exact ⟨v, Nat.lt_of_lt_of_le hv (Nat.pow_le_pow_right (by omega) (by omega)), by rw [if_neg hp, e]⟩
/-! alike -/
def akS (m : Nat → Int32) (a b : Nat) (s : Int32 × Int32 × Int32) : Int32 × Int32 × Int32 := if fJ6_bitCount_0f7a4 (m a ^^^ m b) < s.1 then (fJ6_bitCount_0f7a4 (m a ^^^ m b), nI a, nI b) else s
def akR (m : Nat → Int32) (n a : Nat) (s : Int32 × Int32 × Int32) : Int32 × Int32 × Int32 := fd (fun i => akS m a (a + 1 + i)) s (n - (a + 1))
theorem pX11_alike_in {M : zM} {n a : Nat} (hn : M.1 5 3 = nI n) (h8 : n ≤ 8) (ha : a < n) (s : Int32 × Int32 × Int32) : fX11_alike_L28 (nI a) M 4000 s.1 s.2.1 s.2.2 (nI (a + 1)) = some (akR (M.1 6) n a s) :=
  zfdA (fun n (s : Int32 × Int32 × Int32) i => fX11_alike_L28 (nI a) M n s.1 s.2.1 s.2.2 i) (fun b => akS (M.1 6) a b) (fun s => some s) (fun _ _ => True) s (a + 1) n 4000 (by omega) (by omega) trivial (fun _ _ _ _ _ => trivial)
    (fun k b s hb hbn _ => by
      have h1 : b < 2 ^ 31 := by omega
      have h2 : a < 2 ^ 31 := by omega
      simp only [fX11_alike_L28, hn, if_neg (leF hbn (by omega)), if_pos (zinT (show a < 8 by omega) h2), if_pos (zinT (show b < 8 by omega) h1), nI_clamp h1, nI_clamp h2, nI_1, zlet, ite_le, akS]
      split <;> rfl)
    (fun k s _ => by simp only [fX11_alike_L28, hn, if_pos (leT (Nat.le_refl n) (by omega))])
theorem pX12_alike_in {M : zM} {n a : Nat} (hn : M.1 36 1 = nI n) (h8 : n ≤ 8) (ha : a < n) (s : Int32 × Int32 × Int32) : fX12_alike_L31 (nI a) M 4000 s.1 s.2.1 s.2.2 (nI (a + 1)) = some (akR (M.1 38) n a s) :=
  zfdA (fun n (s : Int32 × Int32 × Int32) i => fX12_alike_L31 (nI a) M n s.1 s.2.1 s.2.2 i) (fun b => akS (M.1 38) a b) (fun s => some s) (fun _ _ => True) s (a + 1) n 4000 (by omega) (by omega) trivial (fun _ _ _ _ _ => trivial)
    (fun k b s hb hbn _ => by
      have h1 : b < 2 ^ 31 := by omega
      have h2 : a < 2 ^ 31 := by omega
      simp only [fX12_alike_L31, hn, if_neg (leF hbn (by omega)), if_pos (zinT (show a < 8 by omega) h2), if_pos (zinT (show b < 8 by omega) h1), nI_clamp h1, nI_clamp h2, nI_1, zlet, akS]
      split <;> rfl)
    (fun k s _ => by simp only [fX12_alike_L31, hn, if_pos (leT (Nat.le_refl n) (by omega))])
theorem pX11_alike_out {M : zM} {n : Nat} (hn : M.1 5 3 = nI n) (h8 : n ≤ 8) : fX11_alike_L10 M 4000 9 0 0 0 = some (fd (akR (M.1 6) n) (9, 0, 0) n) :=
  zfd (fun n (s : Int32 × Int32 × Int32) i => fX11_alike_L10 M n s.1 s.2.1 s.2.2 i) (akR (M.1 6) n) (fun s => some s) (9, 0, 0) n (by omega)
    (fun k a s ha => by
      simp only [fX11_alike_L10, hn, if_neg (leF ha (by omega)), nI_1, zlet, pX11_alike_in hn h8 ha, Option.bind_some, zp])
    (fun k s => by simp only [fX11_alike_L10, hn, if_pos (leT (Nat.le_refl n) (by omega))])
theorem pX12_alike_out {M : zM} {n : Nat} (hn : M.1 36 1 = nI n) (h8 : n ≤ 8) : fX12_alike_L16 M 4000 1000000 (-1) (-1) 0 = some (fd (akR (M.1 38) n) (1000000, -1, -1) n) :=
  zfd (fun n (s : Int32 × Int32 × Int32) i => fX12_alike_L16 M n s.1 s.2.1 s.2.2 i) (akR (M.1 38) n) (fun s => some s) (1000000, -1, -1) n (by omega)
    (fun k a s ha => by
      simp only [fX12_alike_L16, hn, if_neg (leF ha (by omega)), nI_1, zlet, pX12_alike_in hn h8 ha, Option.bind_some, zp])
    (fun k s => by simp only [fX12_alike_L16, hn, if_pos (leT (Nat.le_refl n) (by omega))])
/-- what both have found so far -/
def akI (n : Nat) (x y : Int32 × Int32 × Int32) : Prop := (x = (9, 0, 0) ∧ y = (1000000, -1, -1)) ∨ (x = y ∧ (∃ v : Nat, v ≤ 8 ∧ x.1 = nI v) ∧ (∃ a : Nat, a < n ∧ x.2.1 = nI a) ∧ ∃ b : Nat, b < n ∧ x.2.2 = nI b)
theorem akI_step {m : Nat → Int32} {n a b : Nat} (hm : ∀ t, t < n → ∃ v : Nat, v < 256 ∧ m t = nI v) (ha : a < n) (hb : b < n) {x y : Int32 × Int32 × Int32} (h : akI n x y) : akI n (akS m a b x) (akS m a b y) := by
  obtain ⟨va, ha2, ea⟩ := hm a ha
  obtain ⟨vb, hb2, eb⟩ := hm b hb
  have hx : va ^^^ vb < 256 := Nat.xor_lt_two_pow (n := 8) ha2 hb2
  have e : fJ6_bitCount_0f7a4 (m a ^^^ m b) = nI (pcN (va ^^^ vb)) := by rw [ea, eb, nI_xor, bc_nI _ hx]
  have hp := pcN_le (va ^^^ vb)
  rcases h with ⟨rfl, rfl⟩ | ⟨rfl, h1, h2, h3⟩
  · refine Or.inr ?_
    unfold akS
    rw [e, if_pos (show nI (pcN (va ^^^ vb)) < 9 from ltT (b := 9) (by omega) (by omega)), if_pos (show nI (pcN (va ^^^ vb)) < 1000000 from ltT (b := 1000000) (by omega) (by omega))]
    exact ⟨rfl, ⟨_, hp, rfl⟩, ⟨a, ha, rfl⟩, ⟨b, hb, rfl⟩⟩
  · refine Or.inr ⟨rfl, ?_⟩
    unfold akS
    rw [e]
    split
    · exact ⟨⟨_, hp, rfl⟩, ⟨a, ha, rfl⟩, ⟨b, hb, rfl⟩⟩
    · exact ⟨h1, h2, h3⟩
theorem akI_all {m : Nat → Int32} {n : Nat} (hm : ∀ t, t < n → ∃ v : Nat, v < 256 ∧ m t = nI v) : akI n (fd (akR m n) (9, 0, 0) n) (fd (akR m n) (1000000, -1, -1) n) := by
  refine fd_rel (fun _ x y => akI n x y) (Or.inl ⟨rfl, rfl⟩) (fun a x y ha h => ?_)
  exact fd_rel (fun _ x y => akI n x y) h (fun i x y hi h => akI_step hm ha (by omega) h)
