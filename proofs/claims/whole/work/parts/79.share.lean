/-! shares: the best there is -/
def hv (I u t : Nat) : Bool := hasB (nI I &&& (nI u ^^^ (-1))) (nI t)
def sub (u I : Nat) : Prop := nI u &&& (nI I ^^^ (-1)) = 0
theorem sub_iff {u I : Nat} : sub u I ↔ ∀ j, j < 32 → u.testBit j = true → I.testBit j = true := by
  unfold sub
  rw [and0_iff]
  constructor
  · intro h j hj hu
    have := h j hj
    rw [b_not _ hj, bt_nI _ hj, bt_nI _ hj, hu] at this
    simpa using this
  · intro h j hj
    rw [b_not _ hj, bt_nI _ hj, bt_nI _ hj]
    have := h j hj
    cases h1 : u.testBit j
    · rfl
    · rw [this h1]; rfl
theorem hv_bt {I u t : Nat} (ht : t < 32) : hv I u t = (I.testBit t && !u.testBit t) := by
  unfold hv
  rw [hasB_bt _ ht, b_and, b_not _ ht, bt_nI _ ht, bt_nI _ ht]
theorem hv_ok {I u t n : Nat} (hn : n ≤ 8) (hI : I < 2 ^ n) (hu : u < 2 ^ n) (ht : t < 32) (h : hv I u t = true) : t < n ∧ u ||| 2 ^ t < 2 ^ n ∧ (sub u I → sub (u ||| 2 ^ t) I) := by
  rw [hv_bt ht] at h
  have hb : I.testBit t = true := by
    cases q : I.testBit t
    · rw [q] at h; cases h
    · rfl
  have htn : t < n := by
    rcases Nat.lt_or_ge t n with z | z
    · exact z
    · rw [Nat.testBit_lt_two_pow (Nat.lt_of_lt_of_le hI (Nat.pow_le_pow_right (by omega) z))] at hb
      cases hb
  refine ⟨htn, Nat.or_lt_two_pow hu (Nat.pow_lt_pow_right (by omega) htn), fun hs => ?_⟩
  rw [sub_iff] at hs ⊢
  intro j hj hj2
  rw [Nat.testBit_or, Nat.testBit_two_pow] at hj2
  by_cases c : t = j
  · subst c; exact hb
  · simp [c] at hj2
    exact hs j hj hj2
theorem subs_le {u I : Nat} (hu : u < 256) (h : sub u I) : u ≤ I := by
  rw [sub_iff] at h
  have : u &&& I = u := by
    apply Nat.eq_of_testBit_eq
    intro j
    rw [Nat.testBit_and]
    cases q : u.testBit j
    · rfl
    · rcases Nat.lt_or_ge j 32 with z | z
      · rw [h j z q]; rfl
      · rw [Nat.testBit_lt_two_pow (Nat.lt_of_lt_of_le hu (show 2 ^ 8 ≤ 2 ^ j from Nat.pow_le_pow_right (by omega) (by omega)))] at q
        cases q
  rw [← this]
  exact Nat.and_le_right
theorem sub_0 (I : Nat) : sub 0 I := by
  rw [sub_iff]
  intro j _ h
  rw [Nat.zero_testBit] at h
  cases h
def fo (hs : Nat → Bool) (vl : Nat → Int32) (x : Int32) : Nat → Int32
  | 0 => x
  | k + 1 => if hs k = true then zmax (fo hs vl x k) (vl k) else fo hs vl x k
theorem fo_ex (hs : Nat → Bool) (vl : Nat → Int32) (x : Int32) : ∀ k, fo hs vl x k = x ∨ ∃ t, t < k ∧ hs t = true ∧ vl t = fo hs vl x k
  | 0 => Or.inl rfl
  | k + 1 => by
    have ih := fo_ex hs vl x k
    show (if hs k = true then zmax (fo hs vl x k) (vl k) else fo hs vl x k) = x ∨ ∃ t, t < k + 1 ∧ hs t = true ∧ vl t = (if hs k = true then zmax (fo hs vl x k) (vl k) else fo hs vl x k)
    by_cases c : hs k = true
    · rw [if_pos c]
      unfold zmax
      by_cases c2 : fo hs vl x k < vl k
      · rw [if_pos c2]
        exact Or.inr ⟨k, by omega, c, rfl⟩
      · rw [if_neg c2]
        rcases ih with h | ⟨t, h1, h2, h3⟩
        · exact Or.inl h
        · exact Or.inr ⟨t, by omega, h2, h3⟩
    · rw [if_neg c]
      rcases ih with h | ⟨t, h1, h2, h3⟩
      · exact Or.inl h
      · exact Or.inr ⟨t, by omega, h2, h3⟩
theorem fo_more {hs : Nat → Bool} {vl : Nat → Int32} {x : Int32} {n : Nat} : ∀ k, (∀ t, n ≤ t → t < n + k → hs t = false) → fo hs vl x (n + k) = fo hs vl x n
  | 0, _ => rfl
  | k + 1, h => by
    show (if hs (n + k) = true then zmax (fo hs vl x (n + k)) (vl (n + k)) else fo hs vl x (n + k)) = _
    rw [h (n + k) (by omega) (by omega), if_neg (by decide)]
    exact fo_more k (fun t t1 t2 => h t t1 (by omega))
def bst (I : Nat) (wr : Nat → Nat → Int32) : Nat → Nat → Int32
  | 0, _ => 0
  | r + 1, u => fo (hv I u) (fun t => wr r t + bst I wr r (u ||| 2 ^ t)) (bst I wr r u) 8
def ff (f : Nat → Bool) : Nat → Nat → Nat
  | 0, t => t
  | k + 1, t => if f t = true then t else ff f k (t + 1)
theorem ff_ok (f : Nat → Bool) : ∀ k s, s ≤ ff f k s ∧ ff f k s ≤ s + k ∧ (∀ t, s ≤ t → t < ff f k s → f t = false) ∧ (ff f k s < s + k → f (ff f k s) = true)
  | 0, s => ⟨Nat.le_refl s, Nat.le_refl s, fun t t1 t2 => absurd t2 (by show ¬ t < s; omega), fun h => absurd h (by show ¬ s < s + 0; omega)⟩
  | k + 1, s => by
    unfold ff
    by_cases c : f s = true
    · rw [if_pos c]
      exact ⟨Nat.le_refl s, by omega, fun t t1 t2 => by omega, fun _ => c⟩
    · rw [if_neg c]
      obtain ⟨a1, a2, a3, a4⟩ := ff_ok f k (s + 1)
      refine ⟨by omega, by omega, fun t t1 t2 => ?_, fun h => a4 (by omega)⟩
      rcases Nat.lt_or_ge s t with z | z
      · exact a3 t z t2
      · have : t = s := by omega
        subst this
        simpa using c
def chF (I : Nat) (wr : Nat → Nat → Int32) (r u t : Nat) : Bool := hv I u t && decide (wr r t + bst I wr r (u ||| 2 ^ t) = bst I wr (r + 1) u)
def chT (I : Nat) (wr : Nat → Nat → Int32) (r u : Nat) : Nat := ff (chF I wr r u) 8 0
theorem chT_ok {I r u : Nat} {wr : Nat → Nat → Int32} (h : ¬ bst I wr r u = bst I wr (r + 1) u) : chT I wr r u < 8 ∧ chF I wr r u (chT I wr r u) = true ∧ ∀ t, t < chT I wr r u → chF I wr r u t = false := by
  obtain ⟨a1, a2, a3, a4⟩ := ff_ok (chF I wr r u) 8 0
  have hlt : ff (chF I wr r u) 8 0 < 8 := by
    rcases Nat.lt_or_ge (ff (chF I wr r u) 8 0) 8 with z | z
    · exact z
    · exfalso
      rcases fo_ex (hv I u) (fun t => wr r t + bst I wr r (u ||| 2 ^ t)) (bst I wr r u) 8 with e | ⟨t, t1, t2, t3⟩
      · exact h e.symm
      · have := a3 t (Nat.zero_le t) (by omega)
        unfold chF at this
        rw [t2, Bool.true_and] at this
        exact absurd t3 (of_decide_eq_false this)
  exact ⟨hlt, a4 (by omega), fun t ht => a3 t (Nat.zero_le t) ht⟩
def tl (I : Nat) (wr : Nat → Nat → Int32) : Nat → Nat → List Int64
  | 0, _ => []
  | r + 1, u => if bst I wr r u = bst I wr (r + 1) u then (-1 : Int32).toInt64 :: tl I wr r u else (nI (chT I wr r u)).toInt64 :: tl I wr r (u ||| 2 ^ chT I wr r u)
theorem tl_len (I : Nat) (wr : Nat → Nat → Int32) : ∀ r u, (tl I wr r u).length = r
  | 0, _ => rfl
  | r + 1, u => by
    unfold tl
    split
    · rw [List.length_cons, tl_len I wr r]
    · rw [List.length_cons, tl_len I wr r]
/-! the class -/
theorem isOf_hv (I u t : Nat) : fX11_isOf (nI I &&& (nI u ^^^ (-1))) (nI t) = if hv I u t = true then 1 else 0 := by
  unfold fX11_isOf hv hasB
  by_cases c : zshr (nI I &&& (nI u ^^^ (-1))) (nI t) &&& 1 = 1
  · simp [c]
  · simp [c]
theorem has_hv (I u t : Nat) : fX12_has (nI I &&& (nI u ^^^ (-1))) (nI t) = if hv I u t = true then 1 else 0 := isOf_hv I u t
theorem pred8 : ∀ i, i < 8 → nI i + (-1) = nI i - 1 := by decide
section SHC
variable {n L I : Nat} {wr : Nat → Nat → Int32} {M : zM}
/-- the class's table is filled from line i on -/
def tbC (n L I : Nat) (wr : Nat → Nat → Int32) (i : Nat) (M : zM) : Prop := ∀ i', i ≤ i' → i' ≤ L → ∀ u, u < 2 ^ n → sub u I → M.1 29 (i' * 256 + u) = bst I wr (L - i') u
def gnC (n L : Nat) (wr : Nat → Nat → Int32) (M : zM) : Prop := ∀ i t, i < L → t < n → M.1 28 (i * 8 + t) = wr (L - 1 - i) t
theorem c_with (hn : n ≤ 8) (hL : L ≤ 6) (hI : I < 2 ^ n) {i u t : Nat} (hi : i < L) (hu : u < 2 ^ n) (hs : sub u I) (ht : t < 8) (hh : hv I u t = true) (hg : gnC n L wr M) (htb : tbC n L I wr (i + 1) M) : fX6_withThing (nI i) (nI u) (nI t) M = some (wr (L - 1 - i) t + bst I wr (L - 1 - i) (u ||| 2 ^ t)) := by
  obtain ⟨h1, h2, h3⟩ := hv_ok hn hI hu (by omega) hh
  have h256 : u ||| 2 ^ t < 256 := Nat.lt_of_lt_of_le h2 (pow_le_256 hn)
  have e := htb (i + 1) (Nat.le_refl _) (by omega) _ h2 (h3 hs)
  rw [show L - (i + 1) = L - 1 - i by omega] at e
  unfold fX6_withThing
  rw [show nI i * 8 = nI (i * 8) from pk_mul i 8, nI_add, if_pos (zinT (show i * 8 + t < 48 by omega) (by omega)), nI_1, show nI (i + 1) * 256 = nI ((i + 1) * 256) from pk_mul (i + 1) 256, zshl_2 (show t < 31 by omega), nI_or, nI_add, if_pos (zinT (show (i + 1) * 256 + (u ||| 2 ^ t) < 1792 by omega) (by omega)), nI_clamp (show i * 8 + t < 2 ^ 31 by omega), nI_clamp (show (i + 1) * 256 + (u ||| 2 ^ t) < 2 ^ 31 by omega), hg i t hi h1, e]
theorem c_most (hn : n ≤ 8) (hL : L ≤ 6) (hI : I < 2 ^ n) {i u : Nat} (hi : i < L) (hu : u < 2 ^ n) (hs : sub u I) (hg : gnC n L wr M) (htb : tbC n L I wr (i + 1) M) : fX6_mostFrom (nI i) (nI u) (nI I) M = some (bst I wr (L - i) u) := by
  have h256 : u < 256 := Nat.lt_of_lt_of_le hu (pow_le_256 hn)
  have e0 := htb (i + 1) (Nat.le_refl _) (by omega) u hu hs
  rw [show L - (i + 1) = L - 1 - i by omega] at e0
  have key : fX6_mostFrom_L19 (nI i) (nI u) (nI I) M 4000 (bst I wr (L - 1 - i) u) 0 = some (fo (hv I u) (fun t => wr (L - 1 - i) t + bst I wr (L - 1 - i) (u ||| 2 ^ t)) (bst I wr (L - 1 - i) u) 8) :=
    zfor (fun k (s : Int32 × Int32) => fX6_mostFrom_L19 (nI i) (nI u) (nI I) M k s.1 s.2) (fun j => (fo (hv I u) (fun t => wr (L - 1 - i) t + bst I wr (L - 1 - i) (u ||| 2 ^ t)) (bst I wr (L - 1 - i) u) j, nI j)) 8 _
      (fun k j hj => by
        dsimp only
        rw [fX6_mostFrom_L19.eq_2, if_neg (show ¬ 8 ≤ nI j from leF (a := 8) hj (by omega)), isOf_hv]
        by_cases c : hv I u j = true
        · rw [if_pos c, if_neg (by decide), c_with hn hL hI hi hu hs hj c hg htb, Option.bind_some, nI_1]
          simp only [zlet, Option.bind_some, fo, if_pos c]
        · rw [if_neg c, if_pos rfl, Option.bind_some, nI_1]
          simp only [fo, if_neg c])
      (fun k => by
        dsimp only
        rw [fX6_mostFrom_L19.eq_2, if_pos (show 8 ≤ nI 8 from leT (a := 8) (Nat.le_refl 8) (by omega))])
      8 0 4000 (by omega) (by omega)
  unfold fX6_mostFrom
  rw [nI_1, show nI (i + 1) * 256 = nI ((i + 1) * 256) from pk_mul (i + 1) 256, nI_add, if_pos (zinT (show (i + 1) * 256 + u < 1792 by omega) (by omega)), nI_clamp (show (i + 1) * 256 + u < 2 ^ 31 by omega), e0]
  simp only [zlet]
  rw [key, Option.bind_some, show L - i = (L - 1 - i) + 1 by omega]
  rfl
def F29 (M Z : zM) : Prop := Z.2 = M.2 ∧ ∀ k, k ≠ 29 → Z.1 k = M.1 k
theorem F29.trans {A B C : zM} (h : F29 A B) (g : F29 B C) : F29 A C := ⟨g.1.trans h.1, fun k hk => (g.2 k hk).trans (h.2 k hk)⟩
theorem F29.gn {Z : zM} (h : F29 M Z) (g : gnC n L wr M) : gnC n L wr Z := fun i t hi ht => by rw [h.2 28 (by omega)]; exact g i t hi ht
theorem c_rowS (hn : n ≤ 8) (hL : L ≤ 6) (hI : I < 2 ^ n) {i : Nat} (hi : i < L) (hg : gnC n L wr M) (htb : tbC n L I wr (i + 1) M) : ∃ Z, fX6_workOut_L39 (nI I) (nI i) 4000 0 M = some Z ∧ F29 M Z ∧ tbC n L I wr i Z := by
  have h256 : I < 256 := Nat.lt_of_lt_of_le hI (pow_le_256 hn)
  refine zforI (fun k (s : Int32 × zM) => fX6_workOut_L39 (nI I) (nI i) k s.1 s.2) (fun u s => s.1 = nI u ∧ F29 M s.2 ∧ tbC n L I wr (i + 1) s.2 ∧ ∀ u', u' < u → u' < 2 ^ n → sub u' I → s.2.1 29 (i * 256 + u') = bst I wr (L - i) u') (I + 1) (fun o => ∃ Z, o = some Z ∧ F29 M Z ∧ tbC n L I wr i Z) ?_ ?_ (I + 1) 0 4000 (0, M) (by omega) (by omega) ⟨rfl, ⟨rfl, fun _ _ => rfl⟩, htb, fun u' hu' => absurd hu' (by omega)⟩
  · rintro k u ⟨b, Z⟩ hu ⟨q1, q2, q3, q4⟩
    dsimp only at q1 q2 q3 q4 ⊢
    subst q1
    have u31 : u < 2 ^ 31 := by omega
    have un : u < 2 ^ n := by omega
    by_cases c : sub u I
    · have e := c_most hn hL hI hi un c (q2.gn hg) q3
      refine ⟨(nI (u + 1), zSI Z 29 (i * 256 + u) (bst I wr (L - i) u)), ⟨rfl, ⟨q2.1, fun k hk => by rw [zSI_other _ _ _ hk]; exact q2.2 k hk⟩, fun i' h1 h2 u' hu' hs' => ?_, fun u' h1 h2 h3 => ?_⟩, ?_⟩
      · have : u' < 256 := Nat.lt_of_lt_of_le hu' (pow_le_256 hn)
        rw [gSI, if_neg (by omega)]
        exact q3 i' h1 h2 u' hu' hs'
      · show (zSI Z 29 (i * 256 + u) (bst I wr (L - i) u)).1 29 (i * 256 + u') = _
        rw [gSI]
        by_cases cu : u' = u
        · subst cu; rw [if_pos ⟨rfl, rfl⟩]
        · rw [if_neg (by omega)]
          exact q4 u' (by omega) h2 h3
      · rw [fX6_workOut_L39.eq_2, if_neg (ltF (show u ≤ I by omega) (by omega)), if_pos (show nI u &&& (nI I ^^^ (-1)) = 0 from c), e, Option.bind_some, show nI i * 256 = nI (i * 256) from pk_mul i 256, nI_add, if_pos (zinT (show i * 256 + u < 1792 by omega) (by omega)), nI_clamp (show i * 256 + u < 2 ^ 31 by omega), nI_1]
        rfl
    · refine ⟨(nI (u + 1), Z), ⟨rfl, q2, q3, fun u' h1 h2 h3 => ?_⟩, ?_⟩
      · by_cases cu : u' = u
        · subst cu; exact absurd h3 c
        · exact q4 u' (by omega) h2 h3
      · rw [fX6_workOut_L39.eq_2, if_neg (ltF (show u ≤ I by omega) (by omega)), if_neg (show ¬ nI u &&& (nI I ^^^ (-1)) = 0 from c), Option.bind_some, nI_1]
  · rintro k ⟨b, Z⟩ ⟨q1, q2, q3, q4⟩
    dsimp only at q1 q2 q3 q4 ⊢
    subst q1
    refine ⟨Z, by rw [fX6_workOut_L39.eq_2, if_pos (ltT (show I < I + 1 by omega) (by omega))], q2, fun i' h1 h2 u hu hs => ?_⟩
    rcases Nat.lt_or_ge i i' with z | z
    · exact q3 i' z h2 u hu hs
    · have : i' = i := by omega
      subst this
      have hle := subs_le (Nat.lt_of_lt_of_le hu (pow_le_256 hn)) hs
      exact q4 u (by omega) hu hs
theorem c_rows (hn : n ≤ 8) (hL : L ≤ 6) (hI : I < 2 ^ n) : ∀ i m M, i ≤ L → i < m → gnC n L wr M → tbC n L I wr i M → ∃ Z, fX6_workOut_L32 (nI I) m (nI i - 1) M = some Z ∧ F29 M Z ∧ tbC n L I wr 0 Z
  | 0, m, M, hi, hm, hg, ht => by
    obtain ⟨m, rfl⟩ : ∃ q, m = q + 1 := ⟨m - 1, by omega⟩
    refine ⟨M, ?_, ⟨rfl, fun _ _ => rfl⟩, ht⟩
    rw [m1e, fX6_workOut_L32.eq_2, if_pos (by decide)]
  | i + 1, m, M, hi, hm, hg, ht => by
    obtain ⟨m, rfl⟩ : ∃ q, m = q + 1 := ⟨m - 1, by omega⟩
    obtain ⟨Z, e, f, t⟩ := c_rowS hn hL hI (show i < L by omega) hg ht
    obtain ⟨Y, e2, f2, t2⟩ := c_rows hn hL hI i m Z (by omega) (by omega) (f.gn hg) t
    refine ⟨Y, ?_, f.trans f2, t2⟩
    rw [nI_pred, fX6_workOut_L32.eq_2, if_neg (nI_nneg (by omega)), e, Option.bind_some, pred8 i (by omega), e2]
theorem c_work (hn : n ≤ 8) (hL : L ≤ 6) (hI : I < 2 ^ n) (hg : gnC n L wr M) : ∃ Z, fX6_workOut (nI L) (nI I) M = some Z ∧ F29 M Z ∧ tbC n L I wr 0 Z := by
  have key : ∃ Y, fX6_workOut_L2 (nI L) (nI I) 4000 0 M = some Y ∧ F29 M Y ∧ ∀ u, u < 256 → Y.1 29 (L * 256 + u) = 0 := by
    refine zforI (fun k (s : Int32 × zM) => fX6_workOut_L2 (nI L) (nI I) k s.1 s.2) (fun u s => s.1 = nI u ∧ F29 M s.2 ∧ ∀ u', u' < u → s.2.1 29 (L * 256 + u') = 0) 256 (fun o => ∃ Y, o = some Y ∧ F29 M Y ∧ ∀ u, u < 256 → Y.1 29 (L * 256 + u) = 0) ?_ ?_ 256 0 4000 (0, M) rfl (by omega) ⟨rfl, ⟨rfl, fun _ _ => rfl⟩, fun u' hu' => absurd hu' (by omega)⟩
    · rintro k u ⟨b, Z⟩ hu ⟨q1, q2, q3⟩
      dsimp only at q1 q2 q3 ⊢
      subst q1
      refine ⟨(nI (u + 1), zSI Z 29 (L * 256 + u) 0), ⟨rfl, ⟨q2.1, fun k hk => by rw [zSI_other _ _ _ hk]; exact q2.2 k hk⟩, fun u' h1 => ?_⟩, ?_⟩
      · show (zSI Z 29 (L * 256 + u) 0).1 29 (L * 256 + u') = _
        rw [gSI]
        by_cases cu : u' = u
        · subst cu; rw [if_pos ⟨rfl, rfl⟩]
        · rw [if_neg (by omega)]
          exact q3 u' (by omega)
      · rw [fX6_workOut_L2.eq_2, if_neg (show ¬ 256 ≤ nI u from leF (a := 256) hu (by omega)), show nI L * 256 = nI (L * 256) from pk_mul L 256, nI_add, if_pos (zinT (show L * 256 + u < 1792 by omega) (by omega)), nI_clamp (show L * 256 + u < 2 ^ 31 by omega), nI_1]
        rfl
    · rintro k ⟨b, Z⟩ ⟨q1, q2, q3⟩
      dsimp only at q1 q2 q3 ⊢
      subst q1
      exact ⟨Z, by rw [fX6_workOut_L2.eq_2, if_pos (show 256 ≤ nI 256 from leT (a := 256) (Nat.le_refl 256) (by omega))], q2, q3⟩
  obtain ⟨Y, e, f, t⟩ := key
  obtain ⟨Z, e2, f2, t2⟩ := c_rows (n := n) (wr := wr) hn hL hI L 4000 Y (Nat.le_refl L) (by omega) (f.gn hg) (fun i' h1 h2 u hu hs => by
    have : i' = L := by omega
    subst this
    rw [t u (Nat.lt_of_lt_of_le hu (pow_le_256 hn)), Nat.sub_self]; rfl)
  refine ⟨Z, ?_, f.trans f2, t2⟩
  unfold fX6_workOut
  rw [e, Option.bind_some]
  simp only [zlet]
  rw [e2, Option.bind_some]
theorem c_least (hn : n ≤ 8) (hL : L ≤ 6) (hI : I < 2 ^ n) {i u : Nat} (hi : i < L) (hu : u < 2 ^ n) (hs : sub u I) (hg : gnC n L wr M) (htb : tbC n L I wr 0 M) : fX6_leastChoice (nI i) (nI u) (nI I) M = some (if bst I wr (L - 1 - i) u = bst I wr (L - 1 - i + 1) u then -1 else nI (chT I wr (L - 1 - i) u)) := by
  have h256 : u < 256 := Nat.lt_of_lt_of_le hu (pow_le_256 hn)
  have e0 := htb (i + 1) (by omega) (by omega) u hu hs
  have e1 := htb i (by omega) (by omega) u hu hs
  rw [show L - (i + 1) = L - 1 - i by omega] at e0
  rw [show L - i = L - 1 - i + 1 by omega] at e1
  have htb' : tbC n L I wr (i + 1) M := fun i' h1 h2 => htb i' (by omega) h2
  unfold fX6_leastChoice
  rw [nI_1, show nI i * 256 = nI (i * 256) from pk_mul i 256, nI_add, if_pos (zinT (show i * 256 + u < 1792 by omega) (by omega)), nI_clamp (show i * 256 + u < 2 ^ 31 by omega), show nI (i + 1) * 256 = nI ((i + 1) * 256) from pk_mul (i + 1) 256, nI_add]
  simp only [zlet]
  rw [if_pos (zinT (show (i + 1) * 256 + u < 1792 by omega) (by omega)), nI_clamp (show (i + 1) * 256 + u < 2 ^ 31 by omega), e0, e1]
  by_cases c : bst I wr (L - 1 - i) u = bst I wr (L - 1 - i + 1) u
  · rw [if_pos c, if_pos c]
  · rw [if_neg c, if_neg c]
    obtain ⟨t1, t2, t3⟩ := chT_ok c
    have key : fX6_leastChoice_L38 (nI i) (nI u) (nI I) (bst I wr (L - 1 - i + 1) u) M 4000 0 = some (.inl (nI (chT I wr (L - 1 - i) u))) := by
      refine zforE (fun k (s : Int32) => fX6_leastChoice_L38 (nI i) (nI u) (nI I) (bst I wr (L - 1 - i + 1) u) M k s) (fun j => nI j) 8 _ (chT I wr (L - 1 - i) u) (by omega) (fun k j hj => ?_) (fun k => ?_) 4000 (by omega)
      · have ct := t3 j hj
        unfold chF at ct
        rw [fX6_leastChoice_L38.eq_2, if_neg (show ¬ 8 ≤ nI j from leF (a := 8) (by omega) (by omega)), isOf_hv]
        simp only [zj]
        by_cases cc : hv I u j = true
        · rw [cc, Bool.true_and] at ct
          rw [if_pos cc, if_neg (by decide), c_with hn hL hI hi hu hs (by omega) cc hg htb', Option.bind_some, if_neg (of_decide_eq_false ct), nI_1]
        · rw [if_neg cc, if_pos rfl, nI_1]
      · unfold chF at t2
        have cc : hv I u (chT I wr (L - 1 - i) u) = true := by
          cases q : hv I u (chT I wr (L - 1 - i) u)
          · rw [q] at t2; cases t2
          · rfl
        rw [cc, Bool.true_and] at t2
        rw [fX6_leastChoice_L38.eq_2, if_neg (show ¬ 8 ≤ nI (chT I wr (L - 1 - i) u) from leF (a := 8) (by omega) (by omega)), isOf_hv]
        simp only [zj]
        rw [if_pos cc, if_neg (by decide), c_with hn hL hI hi hu hs (by omega) cc hg htb', Option.bind_some, if_pos (of_decide_eq_true t2)]
    rw [key]
    rfl
theorem c_tells (hn : n ≤ 8) (hL : L ≤ 6) (hI : I < 2 ^ n) : ∀ r i u m M acc, i + r = L → r < m → u < 2 ^ n → sub u I → gnC n L wr M → tbC n L I wr 0 M → CR M acc → acc.length + r ≤ 16 → ∃ Z, fX11_tellShares_L12 (nI L) (nI I) m (nI u) (nI i) M = some Z ∧ TC M Z ∧ CR Z (acc ++ tl I wr r u) := by
  intro r
  induction r with
  | zero =>
    intro i u m M acc hi hm hu hs hg ht hc ha
    obtain ⟨m, rfl⟩ : ∃ q, m = q + 1 := ⟨m - 1, by omega⟩
    refine ⟨M, ?_, ⟨fun _ _ => rfl, fun _ _ => rfl, rfl⟩, ?_⟩
    · rw [fX11_tellShares_L12.eq_2, if_pos (leT (show L ≤ i by omega) (by omega))]
    · show CR M (acc ++ [])
      rw [List.append_nil]; exact hc
  | succ r ih =>
    intro i u m M acc hi hm hu hs hg ht hc ha
    obtain ⟨m, rfl⟩ : ∃ q, m = q + 1 := ⟨m - 1, by omega⟩
    have hiL : i < L := by omega
    have el := c_least hn hL hI hiL hu hs hg ht
    have er : L - 1 - i = r := by omega
    rw [er] at el
    have step : ∀ (x : Int32) (u' : Nat), fX6_leastChoice (nI i) (nI u) (nI I) M = some x → (if x < 0 then nI u else nI u ||| zshl 1 x) = nI u' → u' < 2 ^ n → sub u' I → ∃ Z, fX11_tellShares_L12 (nI L) (nI I) (m + 1) (nI u) (nI i) M = some Z ∧ TC M Z ∧ CR Z (acc ++ x.toInt64 :: tl I wr r u') := by
      intro x u' ex eu hu' hs'
      have : wpO (fX11_tellShares_L12 (nI L) (nI I) (m + 1) (nI u) (nI i) M) (fun Z => TC M Z ∧ CR Z (acc ++ x.toInt64 :: tl I wr r u')) := by
        rw [fX11_tellShares_L12.eq_2, if_neg (leF hiL (by omega)), ex, Option.bind_some]
        refine vC_tell hc (by omega) (fun N1 t1 r1 => wpO_lk ?_)
        rw [show (if x < 0 then nI u else zlet (nI u ||| zshl 1 x) fun y => y) = nI u' from eu, nI_1]
        obtain ⟨Z, e1, t2, r2⟩ := ih (i + 1) u' m N1 (acc ++ [x.toInt64]) (by omega) (by omega) hu' hs' (fun a b ha hb => by rw [t1.1 28 (by omega)]; exact hg a b ha hb) (fun a a1 a2 b b1 b2 => by rw [t1.1 29 (by omega)]; exact ht a a1 a2 b b1 b2) r1 (by rw [List.length_append]; simp; omega)
        rw [List.append_assoc] at r2
        exact ⟨Z, e1, t1.trans t2, r2⟩
      exact this
    show ∃ Z, _ ∧ TC M Z ∧ CR Z (acc ++ (if bst I wr r u = bst I wr (r + 1) u then (-1 : Int32).toInt64 :: tl I wr r u else (nI (chT I wr r u)).toInt64 :: tl I wr r (u ||| 2 ^ chT I wr r u)))
    by_cases c : bst I wr r u = bst I wr (r + 1) u
    · rw [if_pos c] at el ⊢
      exact step (-1) u el (by rw [if_pos (by decide)]) hu hs
    · rw [if_neg c] at el ⊢
      obtain ⟨t1, t2, -⟩ := chT_ok c
      have cc : hv I u (chT I wr r u) = true := by
        unfold chF at t2
        cases q : hv I u (chT I wr r u)
        · rw [q] at t2; cases t2
        · rfl
      obtain ⟨-, o2, o3⟩ := hv_ok hn hI hu (by omega) cc
      refine step (nI (chT I wr r u)) _ el ?_ o2 (o3 hs)
      rw [if_neg (nI_nneg (by omega)), zshl_2 (by omega), nI_or]
end SHC
