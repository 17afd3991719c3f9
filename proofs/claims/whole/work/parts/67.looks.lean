/-! looks -/
theorem cmpN {a b : Nat} (ha : a < 2 ^ 31) (hb : b < 2 ^ 31) : lg_cmp (lN a) (lN b) ≤ 0 ↔ a ≤ b := by
  unfold lg_cmp
  by_cases g : b < a
  · have h1 : lN a > lN b := (lN_lt hb ha).mpr g
    simp only [h1, if_true]
    exact ⟨fun z => absurd z (by decide), fun z => by omega⟩
  · have h1 : ¬ lN a > lN b := fun z => g ((lN_lt hb ha).mp z)
    simp only [h1, if_false]
    by_cases e : a = b
    · subst e
      simp only [if_true]
      exact ⟨fun _ => Nat.le_refl a, fun _ => by decide⟩
    · have h2 : ¬ lN a = lN b := fun z => e ((lN_eq ha hb).mp z)
      simp only [h2, if_false]
      exact ⟨fun _ => by omega, fun _ => by decide⟩
/-- the fraction a by b, told: what stands then -/
theorem p_fracC {M : zM} {a b j : Nat} (hj : M.1 3 1 = nI j) (hl : j < 15) (ha : a < 2 ^ 62) (hb : b ≤ 2 ^ 40) (hb0 : 0 < b) : fX3_tellFraction (lN a) (lN b) M = some (zSI (zSJ (zSI (zSJ M 4 j (lN (a / Nat.gcd a b))) 3 1 (nI (j + 1))) 4 (j + 1) (lN (b / Nat.gcd a b))) 3 1 (nI (j + 1 + 1))) := by
  have hg0 : 0 < Nat.gcd a b := Nat.gcd_pos_of_pos_right a hb0
  have hgb : Nat.gcd a b ≤ b := Nat.gcd_le_right a hb0
  have e : fX3_commonDivisor (lN a) (lN b) = some (lN (Nat.gcd a b)) := by
    unfold fX3_commonDivisor
    rw [show (0 : Int32) = nI 0 from rfl, gcdC 40 a b 4000 0 ha hb (by omega) (by omega) (by omega)]
    rfl
  have c1 : ¬ lg_cmp (lN (Nat.gcd a b)) 0 = 0 := fun z => by have := (cmp0 (by omega)).mp z; omega
  have c2 : ¬ lN (Nat.gcd a b) = 0 := fun z => by have := (lN_eq0 (by omega)).mp z; omega
  unfold fX3_tellFraction
  rw [e]
  simp only [Option.bind_some, if_neg c1, if_pos c2, pk_lDiv (show a < 2 ^ 63 by omega) hg0 (show Nat.gcd a b < 2 ^ 63 by omega), pk_lDiv (show b < 2 ^ 63 by omega) hg0 (show Nat.gcd a b < 2 ^ 63 by omega)]
  rw [pX3_tell _ hj (by omega)]
  simp only [Option.bind_some]
  rw [pX3_tell (k := j + 1) _ (by rw [gSI, if_pos ⟨rfl, rfl⟩]) (by omega)]
  rfl
theorem vM_frac {α : Type} {M : zM} {a b : Nat} {f : zM → Option α} {K : α → Prop} (ha : a < 2 ^ 62) (hb : b ≤ 2 ^ 40) (hb0 : 0 < b) (k : ∀ N, TM M N → MR N [lN (a / Nat.gcd a b), lN (b / Nat.gcd a b)] → wpO (f N) K) : wpO ((fX12_tellPart (lN a) (lN b) M).bind f) K := by
  have hg0 : 0 < Nat.gcd a b := Nat.gcd_pos_of_pos_right a hb0
  have hgb : Nat.gcd a b ≤ b := Nat.gcd_le_right a hb0
  have c2 : ¬ lN (Nat.gcd a b) = 0 := fun z => by have := (lN_eq0 (by omega)).mp z; omega
  unfold fX12_tellPart
  rw [gcdM 40 a b 100 ha hb (by omega) (by omega)]
  simp only [Option.bind_some]
  refine wpO_bk (vM_begin (fun N1 f1 r1 => wpO_tk c2 ?_))
  rw [pk_lDiv (show a < 2 ^ 63 by omega) hg0 (show Nat.gcd a b < 2 ^ 63 by omega), pk_lDiv (show b < 2 ^ 63 by omega) hg0 (show Nat.gcd a b < 2 ^ 63 by omega)]
  exact vM_tell r1 (Nat.le_of_ble_eq_true rfl) (fun N2 f2 r2 => vM_tell r2 (Nat.le_of_ble_eq_true rfl) (fun N3 f3 r3 => wpO_ret (k N3 ((f1.trans f2).trans f3) r3)))
/-- the digit at j -/
def dn (M : zM) (j : Nat) : Nat := (M.1 2 j).toNatClampNeg - 48
theorem dn_eq {M : zM} {j : Nat} (h : dP M j = true) : dgV M j = nI (dn M j) ∧ dn M j ≤ 9 := by
  obtain ⟨-, hs⟩ := dP_sIn h
  have : ∃ b : Nat, 48 ≤ b ∧ b ≤ 57 ∧ M.1 2 j = nI b := by
    rcases split_ix (M.1 2 j) (n := 58) (by omega) with q | ⟨b, hb, e⟩
    · exfalso
      unfold sIn at hs
      simp at hs
      rcases q with q | q
      · have := hs.1
        rw [Int32.le_iff_toInt_le] at this
        rw [Int32.lt_iff_toInt_lt] at q
        have e1 : (nI 48).toInt = 48 := by decide
        have e0 : (0 : Int32).toInt = 0 := by decide
        omega
      · have := hs.2
        rw [Int32.le_iff_toInt_le] at this q
        rw [nI_toInt (by omega)] at this q
        omega
    · rw [e, sIn_nI (by omega) (by omega) (by omega)] at hs
      have := of_decide_eq_true hs
      exact ⟨b, this.1, this.2, e⟩
  obtain ⟨b, h1, h2, e⟩ := this
  unfold dgV dn
  rw [e, nI_clamp (by omega), show (48 : Int32) = nI 48 from rfl, pk_sub h1]
  exact ⟨rfl, by omega⟩
section LK
variable {M R : zM} {k D : Nat}
def FrL (M N : zM) : Prop := (∀ q, q ≠ 36 → N.1 q = M.1 q) ∧ (∀ j, j ≠ 16 → j ≠ 17 → N.1 36 j = M.1 36 j) ∧ (∀ q, q ≠ 53 → N.2.1 q = M.2.1 q) ∧ N.2.2 = M.2.2
theorem FrL.refl (M : zM) : FrL M M := ⟨fun _ _ => rfl, fun _ _ _ => rfl, fun _ _ => rfl, rfl⟩
theorem FrL.trans {A B C : zM} (h : FrL A B) (g : FrL B C) : FrL A C := ⟨fun q a => (g.1 q a).trans (h.1 q a), fun j a b => (g.2.1 j a b).trans (h.2.1 j a b), fun q a => (g.2.2.1 q a).trans (h.2.2.1 q a), g.2.2.2.trans h.2.2.2⟩
theorem m_lkRun {x : Int32} (hk : k ≤ 80) (hb : ∀ j, j < k → ∃ b : Nat, b < 256 ∧ M.1 2 j = nI b) (hR : TSt (gT M (min k 6)) k 6 R 0 none) (hD : D ≤ k) (hP : ∀ j, j < D → dP M j = true) : ∀ i, i ≤ D → ∃ T, fX12_looks_L35 x 4000 0 0 R = fX12_looks_L35 x (4000 - i) (lN (smN (fun j => 1024 * dn M j) i)) (nI i) T ∧ TSt (gT M (min k 6)) k 6 T i none ∧ (∀ j, j < i → T.2.1 53 j = lN (1024 * dn M j)) ∧ FrL R T
  | 0, _ => ⟨R, rfl, hR, fun j hj => absurd hj (by omega), FrL.refl R⟩
  | i + 1, hi => by
    obtain ⟨T, e, t, v, f⟩ := m_lkRun (x := x) hk hb hR hD hP i (by omega)
    have hp := hP i (by omega)
    obtain ⟨h6, hs⟩ := dP_sIn hp
    have hg := GT_of (most := 6) hb
    have eg : gT M (min k 6) i = M.1 2 i := gT_in (by omega)
    have e1 := t_one1 hg t (f := 48) (m := 10) (by omega) (by omega) (by omega) (by rw [eg]; exact hs)
    rw [eg] at e1
    have e1' : fX12_oneOf 48 10 T = some (dgV M i, zSI T 36 16 (nI (i + 1))) := e1
    obtain ⟨ed, hd9⟩ := dn_eq hp
    rw [ed] at e1'
    have ev : (zSJ (zSI T 36 16 (nI (i + 1))) 53 i (lN (1024 * dn M i))).2.1 53 i = lN (1024 * dn M i) := by rw [gSJ, if_pos ⟨rfl, rfl⟩]
    have em : (1024 : Int64) * (nI (dn M i)).toInt64 = lN (1024 * dn M i) := by rw [toL (by omega)]; exact lN_mul 1024 _
    refine ⟨zSJ (zSI T 36 16 (nI (i + 1))) 53 i (lN (1024 * dn M i)), ?_, (t.adv (by omega)).SJ _, fun j hj => ?_, f.trans ⟨fun q hq => by show (zSI T 36 16 _).1 q = _; rw [zSI_other _ _ _ hq], fun j j1 _ => by show (zSI T 36 16 _).1 36 j = _; rw [gSI, if_neg (by omega)], fun q hq => by rw [zSJ_other _ _ _ hq]; rfl, rfl⟩⟩
    · rw [e, show 4000 - i = (4000 - (i + 1)) + 1 by omega]
      simp only [fX12_looks_L35, if_neg (show ¬ 6 ≤ nI i from leF (a := 6) h6 (by omega)), e1', Option.bind_some, zp, if_pos (zinT h6 (show i < 2 ^ 31 by omega)), nI_clamp (show i < 2 ^ 31 by omega), zlet, em, ev, lN_add, nI_1]
      rfl
    · rw [gSJ]
      by_cases c : j = i
      · subst c; rw [if_pos ⟨rfl, rfl⟩]
      · rw [if_neg (fun z => c z.2)]; exact v j (by omega)
theorem m_lkRest {x : Int32} : ∀ r i m s (T : zM), i + r = 6 → r < m → TSt (gT M (min k 6)) k 6 T D (some D) → ∃ y Z, fX12_looks_L35 x m s (nI i) T = some (y, Z) ∧ TSt (gT M (min k 6)) k 6 Z D (some D) ∧ FrL T Z
  | 0, i, m, s, T, hi, hm, t => by
    obtain ⟨m, rfl⟩ : ∃ q, m = q + 1 := ⟨m - 1, by omega⟩
    have : i = 6 := by omega
    subst this
    exact ⟨s, T, by simp only [fX12_looks_L35, if_pos (show 6 ≤ nI 6 from leT (a := 6) (Nat.le_refl 6) (by omega))], t, FrL.refl T⟩
  | r + 1, i, m, s, T, hi, hm, t => by
    obtain ⟨m, rfl⟩ : ∃ q, m = q + 1 := ⟨m - 1, by omega⟩
    generalize hT : zSJ T 53 i (1024 * (0 : Int32).toInt64) = T2
    have t2 : TSt (gT M (min k 6)) k 6 T2 D (some D) := by subst hT; exact t.SJ _
    obtain ⟨y, Z, e, tz, f⟩ := m_lkRest (x := x) r (i + 1) m (s + T2.2.1 53 i) T2 (by omega) (by omega) t2
    refine ⟨y, Z, ?_, tz, FrL.trans ⟨fun q hq => by subst hT; rfl, fun j _ _ => by subst hT; rfl, fun q hq => by subst hT; rw [zSJ_other _ _ _ hq], by subst hT; rfl⟩ f⟩
    simp only [fX12_looks_L35, if_neg (show ¬ 6 ≤ nI i from leF (a := 6) (show i < 6 by omega) (by omega)), t_one0 t, Option.bind_some, zp, if_pos (zinT (show i < 6 by omega) (show i < 2 ^ 31 by omega)), nI_clamp (show i < 2 ^ 31 by omega), zlet, hT, nI_1]
    exact e
theorem m_lkBad {x : Int32} (hk : k ≤ 80) (hb : ∀ j, j < k → ∃ b : Nat, b < 256 ∧ M.1 2 j = nI b) (hR : TSt (gT M (min k 6)) k 6 R 0 none) (hD : D ≤ k) (hP : ∀ j, j < D → dP M j = true) (hF : D < k → dP M D = false) (h6 : D < 6) : ∃ y Z, fX12_looks_L35 x 4000 0 0 R = some (y, Z) ∧ TSt (gT M (min k 6)) k 6 Z D (some D) ∧ FrL R Z := by
  obtain ⟨T, e, t, v, f⟩ := m_lkRun (x := x) hk hb hR hD hP D (Nat.le_refl D)
  have hg := GT_of (most := 6) hb
  have hs : sIn (gT M (min k 6) D) 48 57 = false := by
    rcases Nat.lt_or_ge D k with z | z
    · have := hF z
      unfold dP at this
      rw [gT_in (by omega)]
      simpa [h6] using this
    · rw [hg.1 D (by omega)]
      exact sIn_m1 (by omega)
  have e1 := t_oneF hg t (f := 48) (m := 10) (by omega) (by omega) hs
  have e1' : fX12_oneOf 48 10 T = some (0, zSI T 36 17 (nI D)) := e1
  generalize hT : zSJ (zSI T 36 17 (nI D)) 53 D (1024 * (0 : Int32).toInt64) = T2
  have t2 : TSt (gT M (min k 6)) k 6 T2 D (some D) := by subst hT; exact t.flt.SJ _
  obtain ⟨y, Z, e2, tz, f2⟩ := m_lkRest (x := x) (5 - D) (D + 1) (4000 - (D + 1)) (lN (smN (fun j => 1024 * dn M j) D) + T2.2.1 53 D) T2 (by omega) (by omega) t2
  refine ⟨y, Z, ?_, tz, (f.trans ⟨fun q hq => by subst hT; show (zSI T 36 17 _).1 q = _; rw [zSI_other _ _ _ hq], fun j _ j2 => by subst hT; show (zSI T 36 17 _).1 36 j = _; rw [gSI, if_neg (by omega)], fun q hq => by subst hT; rw [zSJ_other _ _ _ hq]; rfl, by subst hT; rfl⟩).trans f2⟩
  rw [e, show 4000 - D = (4000 - (D + 1)) + 1 by omega]
  simp only [fX12_looks_L35, if_neg (show ¬ 6 ≤ nI D from leF (a := 6) h6 (by omega)), e1', Option.bind_some, zp, if_pos (zinT h6 (show D < 2 ^ 31 by omega)), nI_clamp (show D < 2 ^ 31 by omega), zlet, hT, nI_1]
  exact e2
end LK
/-! one look behind the other -/
def lkF (a : Nat → Nat) (i b : Nat) : Nat := if a b < a i then i else b
def lkB (a : Nat → Nat) : Nat := fd (fun i => lkF a (1 + i)) 0 5
theorem lkB_lt (a : Nat → Nat) : lkB a < 6 := fd_inv (f := fun i => lkF a (1 + i)) (s := 0) (fun _ b => b < 6) (by omega) (n := 5) (fun i b hi h => by unfold lkF; split <;> omega)
theorem c_lkB {Y : zM} {a : Nat → Nat} (h : ∀ j, j < 6 → Y.1 35 j = nI (a j) ∧ a j ≤ 9216) : fX11_likeliestPlace Y = some (nI (lkB a)) := by
  have key : fX11_likeliestPlace_L4 Y 4000 0 1 = some (nI (lkB a)) :=
    zfdA (fun n (s : Nat) i => fX11_likeliestPlace_L4 Y n (nI s) i) (lkF a) (fun s => some (nI s)) (fun _ s => s < 6) 0 1 6 4000 (by omega) (by omega) (by omega) (fun i s _ hi hs => by unfold lkF; split <;> omega)
      (fun n i s _ hi hs => by
        obtain ⟨e1, b1⟩ := h i hi
        obtain ⟨e2, b2⟩ := h s hs
        simp only [fX11_likeliestPlace_L4, if_neg (show ¬ 6 ≤ nI i from leF (a := 6) hi (by omega)), if_pos (zinT hi (show i < 2 ^ 31 by omega)), if_pos (zinT hs (show s < 2 ^ 31 by omega)), nI_clamp (show i < 2 ^ 31 by omega), nI_clamp (show s < 2 ^ 31 by omega), e1, e2, zlet, nI_1, lkF]
        by_cases c : a s < a i
        · rw [if_neg (leF c (by omega)), if_pos c]
        · rw [if_pos (leT (show a i ≤ a s by omega) (by omega)), if_neg c])
      (fun n s hs => by simp only [fX11_likeliestPlace_L4, if_pos (show 6 ≤ nI 6 from leT (a := 6) (Nat.le_refl 6) (by omega))])
  unfold fX11_likeliestPlace
  rw [key]; rfl
theorem m_lkB {Y : zM} {a : Nat → Nat} {x1 : Int32} {x2 x4 : Int64} {x6 : Int32} (h : ∀ j, j < 6 → Y.2.1 53 j = lN (a j) ∧ a j ≤ 9216) : fX12_looks_L119 x1 x2 x4 x6 Y 4000 0 1 = some (nI (lkB a)) :=
  zfdA (fun n (s : Nat) i => fX12_looks_L119 x1 x2 x4 x6 Y n (nI s) i) (lkF a) (fun s => some (nI s)) (fun _ s => s < 6) 0 1 6 4000 (by omega) (by omega) (by omega) (fun i s _ hi hs => by unfold lkF; split <;> omega)
    (fun n i s _ hi hs => by
      obtain ⟨e1, b1⟩ := h i hi
      obtain ⟨e2, b2⟩ := h s hs
      simp only [fX12_looks_L119, if_neg (show ¬ 6 ≤ nI i from leF (a := 6) hi (by omega)), if_pos (zinT hi (show i < 2 ^ 31 by omega)), if_pos (zinT hs (show s < 2 ^ 31 by omega)), nI_clamp (show i < 2 ^ 31 by omega), nI_clamp (show s < 2 ^ 31 by omega), e1, e2, zlet, nI_1, lkF]
      by_cases c : a s < a i
      · rw [if_neg (fun z => by have := (cmpN (by omega) (by omega)).mp z; omega), if_pos c]
      · rw [if_pos ((cmpN (by omega) (by omega)).mpr (by omega)), if_neg c])
    (fun n s hs => by simp only [fX12_looks_L119, if_pos (show 6 ≤ nI 6 from leT (a := 6) (Nat.le_refl 6) (by omega))])
abbrev lkT : Type := (Nat → Nat) × Nat × List Nat
def lkS (_ : Nat) (s : lkT) : lkT := (fun j => if j = lkB s.1 then s.1 (lkB s.1) / 2 else s.1 j, s.2.1 + s.1 (lkB s.1) / 2, s.2.2 ++ [lkB s.1])
def lkI (i : Nat) (s : lkT) : Prop := (∀ j, j < 6 → s.1 j ≤ 9216) ∧ s.2.1 ≤ 4608 * i ∧ s.2.2.length = i ∧ ∀ b ∈ s.2.2, b < 6
theorem lkI_step {i : Nat} {s : lkT} (h : lkI i s) : lkI (i + 1) (lkS i s) := by
  obtain ⟨h1, h2, h3, h4⟩ := h
  have hb := lkB_lt s.1
  have hv := h1 _ hb
  refine ⟨fun j hj => ?_, ?_, ?_, fun b hb2 => ?_⟩
  · show (if j = lkB s.1 then _ else _) ≤ _
    split
    · omega
    · exact h1 j hj
  · show s.2.1 + s.1 (lkB s.1) / 2 ≤ _
    omega
  · show (s.2.2 ++ [lkB s.1]).length = _
    rw [List.length_append, h3]; rfl
  · have : b ∈ s.2.2 ++ [lkB s.1] := hb2
    simp at this
    rcases this with q | q
    · exact h4 b q
    · rw [q]; exact hb
def lkL (s : lkT) : List Int64 := s.2.2.map (fun b => (nI b).toInt64)
def FrK (C Y : zM) : Prop := (∀ q, q ≠ 3 → q ≠ 35 → Y.1 q = C.1 q) ∧ (∀ q, q ≠ 4 → Y.2.1 q = C.2.1 q) ∧ Y.2.2 = C.2.2
theorem FrK.refl (C : zM) : FrK C C := ⟨fun _ _ _ => rfl, fun _ _ => rfl, rfl⟩
theorem FrK.trans {A B C : zM} (h : FrK A B) (g : FrK B C) : FrK A C := ⟨fun q a b => (g.1 q a b).trans (h.1 q a b), fun q a => (g.2.1 q a).trans (h.2.1 q a), g.2.2.trans h.2.2⟩
theorem TC.K {C Y : zM} (t : TC C Y) : FrK C Y := ⟨fun q a _ => t.1 q a, t.2.1, t.2.2⟩
theorem c_lkL {C : zM} {m : Nat} {x2 : Int64} {u v : Int64} (hm : m ≤ 10) {s0 : lkT} (h0 : lkI 0 s0) (hf : s0.2.1 = 0) (h35 : ∀ j, j < 6 → C.1 35 j = nI (s0.1 j)) (hR : CR C [u, v]) : ∃ Y, fX11_tellLooks_L53 (nI m) x2 4000 0 0 C = some (lN (fd lkS s0 m).2.1, Y) ∧ FrK C Y ∧ CR Y ([u, v] ++ lkL (fd lkS s0 m)) := by
  have hl0 : lkL s0 = [] := by
    have := h0.2.2.1
    unfold lkL
    rw [List.eq_nil_of_length_eq_zero this]; rfl
  refine zforI (fun n (q : Int64 × Int32 × zM) => fX11_tellLooks_L53 (nI m) x2 n q.1 q.2.1 q.2.2) (fun i q => q.1 = lN (fd lkS s0 i).2.1 ∧ q.2.1 = nI i ∧ FrK C q.2.2 ∧ CR q.2.2 ([u, v] ++ lkL (fd lkS s0 i)) ∧ (∀ j, j < 6 → q.2.2.1 35 j = nI ((fd lkS s0 i).1 j)) ∧ lkI i (fd lkS s0 i)) m (fun r => ∃ Y, r = some (lN (fd lkS s0 m).2.1, Y) ∧ FrK C Y ∧ CR Y ([u, v] ++ lkL (fd lkS s0 m))) ?_ ?_ m 0 4000 (0, 0, C) (by omega) (by omega) ⟨by show (0 : Int64) = lN s0.2.1; rw [hf]; rfl, rfl, FrK.refl C, by show CR C ([u, v] ++ lkL s0); rw [hl0, List.append_nil]; exact hR, h35, h0⟩
  · rintro n i ⟨f, b, Y⟩ hi ⟨q1, q2, q3, q4, q5, q6⟩
    dsimp only at q1 q2 q3 q4 q5 q6 ⊢
    subst q1 q2
    have hs : fd lkS s0 (i + 1) = lkS i (fd lkS s0 i) := rfl
    generalize fd lkS s0 i = s at hs q4 q5 q6 ⊢
    have hb := lkB_lt s.1
    have hv := q6.1 _ hb
    have eb := c_lkB (Y := Y) (a := s.1) (fun j hj => ⟨q5 j hj, q6.1 j hj⟩)
    have b31 : lkB s.1 < 2 ^ 31 := by omega
    have ed : nI (s.1 (lkB s.1)) / 2 = nI (s.1 (lkB s.1) / 2) := pk_div (d := 2) (by omega) (by omega) (by omega)
    generalize hY2 : zSI Y 35 (lkB s.1) (nI (s.1 (lkB s.1) / 2)) = Y2
    have ev : Y2.1 35 (lkB s.1) = nI (s.1 (lkB s.1) / 2) := by subst hY2; rw [gSI, if_pos ⟨rfl, rfl⟩]
    have r2 : CR Y2 ([u, v] ++ lkL s) := q4.fr (by subst hY2; rw [zSI_other _ _ _ (by decide)]) (by subst hY2; rfl)
    have len : ([u, v] ++ lkL s).length < 16 := by
      rw [List.length_append]
      unfold lkL
      rw [List.length_map, q6.2.2.1]
      show 2 + i < 16
      omega
    have et := pX3_tell (M := Y2) (nI (lkB s.1)).toInt64 r2.1 len
    obtain ⟨Y3, e3, t3, c3⟩ : wpO (fX3_tell (nI (lkB s.1)).toInt64 Y2) (fun Y3 => TC Y2 Y3 ∧ CR Y3 ([u, v] ++ lkL s ++ [(nI (lkB s.1)).toInt64])) := by
      have := vC_tell (α := zM) (v := (nI (lkB s.1)).toInt64) (f := fun N => some N) (K := fun Y3 => TC Y2 Y3 ∧ CR Y3 ([u, v] ++ lkL s ++ [(nI (lkB s.1)).toInt64])) r2 len (fun N t r => wpO_ret ⟨t, r⟩)
      obtain ⟨Y3, e3, k3⟩ := this
      rw [et] at e3
      cases e3
      exact ⟨_, et, k3⟩
    refine ⟨(lN (lkS i s).2.1, nI (i + 1), Y3), ⟨by rw [hs], rfl, q3.trans (FrK.trans ⟨fun q _ b => by subst hY2; rw [zSI_other _ _ _ b], fun _ _ => by subst hY2; rfl, by subst hY2; rfl⟩ t3.K), ?_, fun j hj => ?_, by rw [hs]; exact lkI_step q6⟩, ?_⟩
    · rw [hs]
      have : [u, v] ++ lkL (lkS i s) = [u, v] ++ lkL s ++ [(nI (lkB s.1)).toInt64] := by
        unfold lkL
        show [u, v] ++ (s.2.2 ++ [lkB s.1]).map _ = _
        rw [List.map_append, List.append_assoc]; rfl
      rw [this]; exact c3
    · rw [hs]
      show Y3.1 35 j = nI (if j = lkB s.1 then s.1 (lkB s.1) / 2 else s.1 j)
      rw [t3.1 35 (by omega)]
      subst hY2
      rw [gSI]
      by_cases c : j = lkB s.1
      · rw [if_pos ⟨rfl, c⟩, if_pos c]
      · rw [if_neg (fun z => c z.2), if_neg c]; exact q5 j hj
    · simp only [fX11_tellLooks_L53, if_neg (leF hi (by omega)), eb, Option.bind_some, if_pos (zinT hb b31), nI_clamp b31, q5 _ hb, ed, zlet, hY2, ev, toL (show s.1 (lkB s.1) / 2 < 2 ^ 31 by omega), lN_add, e3, nI_1]
      rfl
  · rintro n ⟨f, b, Y⟩ ⟨q1, q2, q3, q4, -, -⟩
    dsimp only at q1 q2 q3 q4 ⊢
    subst q1 q2
    exact ⟨Y, by simp only [fX11_tellLooks_L53, if_pos (leT (Nat.le_refl m) (by omega))], q3, q4⟩
/-- what the reference's looks leave -/
def FrJ (R T : zM) : Prop := (∀ q, q ≠ 54 → T.1 q = R.1 q) ∧ (∀ q, q ≠ 53 → T.2.1 q = R.2.1 q) ∧ T.2.2 = R.2.2
theorem m_lkL {R : zM} {m : Nat} {x2 : Int64} (hm : m ≤ 10) {s0 : lkT} (h0 : lkI 0 s0) (hf : s0.2.1 = 0) (h53 : ∀ j, j < 6 → R.2.1 53 j = lN (s0.1 j)) : ∃ T, fX12_looks_L107 (nI m) x2 4000 0 0 R = some (lN (fd lkS s0 m).2.1, T) ∧ FrJ R T ∧ ∀ j b, (fd lkS s0 m).2.2[j]? = some b → T.1 54 j = nI b := by
  have hl0 : s0.2.2 = [] := List.eq_nil_of_length_eq_zero h0.2.2.1
  refine zforI (fun n (q : Int64 × Int32 × zM) => fX12_looks_L107 (nI m) x2 n q.1 q.2.1 q.2.2) (fun i q => q.1 = lN (fd lkS s0 i).2.1 ∧ q.2.1 = nI i ∧ FrJ R q.2.2 ∧ (∀ j b, (fd lkS s0 i).2.2[j]? = some b → q.2.2.1 54 j = nI b) ∧ (∀ j, j < 6 → q.2.2.2.1 53 j = lN ((fd lkS s0 i).1 j)) ∧ lkI i (fd lkS s0 i)) m (fun r => ∃ T, r = some (lN (fd lkS s0 m).2.1, T) ∧ FrJ R T ∧ ∀ j b, (fd lkS s0 m).2.2[j]? = some b → T.1 54 j = nI b) ?_ ?_ m 0 4000 (0, 0, R) (by omega) (by omega) ⟨by show (0 : Int64) = lN s0.2.1; rw [hf]; rfl, rfl, ⟨fun _ _ => rfl, fun _ _ => rfl, rfl⟩, (fun j b hj => by have : s0.2.2[j]? = some b := hj; rw [hl0] at this; cases this), h53, h0⟩
  · rintro n i ⟨f, b, Y⟩ hi ⟨q1, q2, q3, q4, q5, q6⟩
    dsimp only at q1 q2 q3 q4 q5 q6 ⊢
    subst q1 q2
    have hs : fd lkS s0 (i + 1) = lkS i (fd lkS s0 i) := rfl
    generalize fd lkS s0 i = s at hs q4 q5 q6 ⊢
    have hb := lkB_lt s.1
    have hv := q6.1 _ hb
    have eb := m_lkB (Y := Y) (a := s.1) (x1 := nI m) (x2 := x2) (x4 := lN s.2.1) (x6 := nI i) (fun j hj => ⟨q5 j hj, q6.1 j hj⟩)
    have b31 : lkB s.1 < 2 ^ 31 := by omega
    have ed : lN (s.1 (lkB s.1)) / 2 = lN (s.1 (lkB s.1) / 2) := pk_lDiv (b := 2) (by omega) (by omega) (by omega)
    generalize hY2 : zSJ Y 53 (lkB s.1) (lN (s.1 (lkB s.1) / 2)) = Y2
    have ev : Y2.2.1 53 (lkB s.1) = lN (s.1 (lkB s.1) / 2) := by subst hY2; rw [gSJ, if_pos ⟨rfl, rfl⟩]
    refine ⟨(lN (lkS i s).2.1, nI (i + 1), zSI Y2 54 i (nI (lkB s.1))), ⟨by rw [hs], rfl, ⟨fun q hq => by rw [zSI_other _ _ _ hq]; subst hY2; exact q3.1 q hq, fun q hq => by show Y2.2.1 q = _; subst hY2; rw [zSJ_other _ _ _ hq]; exact q3.2.1 q hq, by show Y2.2.2 = _; subst hY2; exact q3.2.2⟩, fun j c hj => ?_, fun j hj => ?_, by rw [hs]; exact lkI_step q6⟩, ?_⟩
    · rw [hs] at hj
      have hj : (s.2.2 ++ [lkB s.1])[j]? = some c := hj
      show (zSI Y2 54 i (nI (lkB s.1))).1 54 j = _
      rw [gSI]
      rcases Nat.lt_or_ge j s.2.2.length with z | z
      · rw [List.getElem?_append_left z] at hj
        rw [if_neg (by have := q6.2.2.1; omega)]
        subst hY2
        exact q4 j c hj
      · rw [List.getElem?_append_right z] at hj
        have : j - s.2.2.length < 1 := (List.getElem?_eq_some_iff.mp hj).1
        have ej : j = i := by have := q6.2.2.1; omega
        have e0 : j - s.2.2.length = 0 := by omega
        rw [e0] at hj
        cases hj
        rw [if_pos ⟨rfl, ej⟩]
    · rw [hs]
      show Y2.2.1 53 j = lN (if j = lkB s.1 then s.1 (lkB s.1) / 2 else s.1 j)
      subst hY2
      rw [gSJ]
      by_cases c : j = lkB s.1
      · rw [if_pos ⟨rfl, c⟩, if_pos c]
      · rw [if_neg (fun z => c z.2), if_neg c]; exact q5 j hj
    · simp only [fX12_looks_L107, if_neg (leF hi (by omega)), eb, Option.bind_some, if_pos (zinT hb b31), nI_clamp b31, q5 _ hb, ed, zlet, hY2, ev, lN_add, if_pos (zinT (show i < 10 by omega) (show i < 2 ^ 31 by omega)), nI_clamp (show i < 2 ^ 31 by omega), nI_1]
      rfl
  · rintro n ⟨f, b, Y⟩ ⟨q1, q2, q3, q4, -, -⟩
    dsimp only at q1 q2 q3 q4 ⊢
    subst q1 q2
    exact ⟨Y, by simp only [fX12_looks_L107, if_pos (leT (Nat.le_refl m) (by omega))], q3, q4⟩
