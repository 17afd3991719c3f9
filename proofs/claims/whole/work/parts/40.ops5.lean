/-! weakest -/
def sNd (M : zM) (nd t : Nat) : Int32 := bsA (fun d => hasB (M.1 40 d) (nI t)) nd
theorem cNd {M N : zM} {n nd t : Nat} (hS : RS M n nd) (f : FrC M N) : fX7_deedsThatNeed (nI t) N = some (sNd M nd t) := by
  rw [pX7_deedsThatNeed (nd := nd) (by rw [f.2.2.2.1 5 rfl]; exact hS.2.1.2.2.1) hS.1.2, f.2.2.2.1 8 rfl]
  exact congrArg some (bsA_congr (fun d hd => by rw [(hS.2.2.2.2 d hd).1]))
theorem gone_eq {M : zM} {n nd t : Nat} (hS : RS M n nd) (own : Int32) (ht : t < n) : sCan M nd own &&& (sCan M nd (own &&& (zshl 1 (nI t) ^^^ (-1))) ^^^ (-1)) = sCan M nd own &&& sNd M nd t := by
  obtain ⟨⟨h8, h6⟩, -, -, -, hN⟩ := hS
  apply b_ext
  intro i hi
  rw [b_and, b_and, b_not _ hi]
  simp only [sCan, sNd, bt_bsA (show nd ≤ 32 by omega) hi]
  by_cases hd : i < nd
  · simp only [hd, decide_true, Bool.true_and]
    by_cases hc : M.1 40 i &&& (own ^^^ (-1)) = 0
    · simp only [hc, decide_true, Bool.true_and]
      rw [hasB_bt _ (by omega)]
      have hb : ∀ j, j < 32 → (bt (M.1 40 i) j && !bt own j) = false := fun j hj => by
        have := congrArg (fun z => bt z j) hc
        simp only [b_and, b_not _ hj, b_0] at this
        exact this
      by_cases hbt : bt (M.1 40 i) t = true
      · rw [hbt]
        have : ¬ M.1 40 i &&& ((own &&& (zshl 1 (nI t) ^^^ (-1))) ^^^ (-1)) = 0 := fun z => by
          have := congrArg (fun z => bt z t) z
          simp only [b_and, b_not _ (show t < 32 by omega), b_0, bt_shl1 (show t < 32 by omega) (show t < 32 by omega), hbt] at this
          simp at this
        rw [decide_eq_false this]; rfl
      · have hbf : bt (M.1 40 i) t = false := by simpa using hbt
        rw [hbf]
        have : M.1 40 i &&& ((own &&& (zshl 1 (nI t) ^^^ (-1))) ^^^ (-1)) = 0 := by
          apply b_ext
          intro j hj
          simp only [b_and, b_not _ hj, b_0, bt_shl1 (show t < 32 by omega) hj]
          by_cases e : j = t
          · subst e; simp [hbf]
          · have := hb j hj
            revert this
            cases bt (M.1 40 i) j <;> cases bt own j <;> simp [e]
        rw [decide_eq_true this]; rfl
    · rw [decide_eq_false hc]; simp only [Bool.false_and]
  · simp [hd]
def wkC (own : Int32) (g : Nat → Int32) (t : Nat) (s : Int32 × Int32) : Int32 × Int32 := if hasB own (nI t) = true ∧ s.2 < fJ6_bitCount_0f7a4 (g t) then (nI t, fJ6_bitCount_0f7a4 (g t)) else s
def wkM (own : Int32) (g : Nat → Int32) (t : Nat) (s : Int32 × Int32) : Int32 × Int32 := if hasB own (nI t) = true ∧ (s.1 = -1 ∨ fJ6_bitCount_0f7a4 s.2 < fJ6_bitCount_0f7a4 (g t)) then (nI t, g t) else s
theorem sHad_none {M : zM} {n : Nat} (h8 : n ≤ 8) (h : ∀ t, t < n → hasB (sHad M n 6) (nI t) = false) : sHad M n 6 = 0 := by
  apply b_ext
  intro i hi
  rw [b_0]
  by_cases hin : i < n
  · rw [← hasB_bt _ hi]; exact h i hin
  · unfold sHad; rw [bt_bsA (by omega) hi]; simp [hin]
theorem op_weakest {M : zM} {n nd : Nat} (hS : RS M n nd) (hW : RW M n 60 37 0) (hO : RO M) : OpQ fX11_weakest fX12_weakest M := by
  have hS0 := hS
  obtain ⟨⟨h8, h6⟩, ⟨s1, s2, s3, s4⟩, -, -, -⟩ := hS
  obtain ⟨own, ho⟩ : ∃ own, own = sHad M n 6 := ⟨_, rfl⟩
  obtain ⟨g, hg⟩ : ∃ g : Nat → Int32, ∀ t, g t = sCan M nd own &&& sNd M nd t := ⟨_, fun _ => rfl⟩
  have hgb : ∀ t, ∃ v : Nat, v ≤ 6 ∧ fJ6_bitCount_0f7a4 (g t) = nI v := fun t => ⟨_, Nat.le_trans (ct_le _ nd) h6, by
    rw [hg t]
    unfold sCan sNd
    rw [bsA_and _ _ (by omega)]
    exact bc_bs (by omega)⟩
  have eC : fX11_weakest_L27 own (sCan M nd own) M 4000 (-1) (-1) 0 = (fun s : Int32 × Int32 => some s.1) (fd (wkC own g) (-1, -1) n) :=
    zfd (fun k (s : Int32 × Int32) i => fX11_weakest_L27 own (sCan M nd own) M k s.1 s.2 i) (wkC own g) (fun s : Int32 × Int32 => some s.1) (-1, -1) n (by omega)
      (fun k i s hi => by
        simp only [fX11_weakest_L27, s1, if_neg (leF hi (by omega)), cNd hS0 (FrC.refl M), ← hg, Option.bind_some, zlet, isOf_0, nI_1, wkC, ite_le]
        by_cases a : hasB own (nI i) = true <;> by_cases b : s.2 < fJ6_bitCount_0f7a4 (g i) <;> simp [a, b])
      (fun k s => by simp only [fX11_weakest_L27, s1, if_pos (leT (Nat.le_refl n) (by omega))])
  have eM : ∀ N, E12 M N → fX12_weakest_L30 own N 4000 (-1) 0 0 = some (fd (wkM own g) (-1, 0) n) := fun N e => by
    have e1 : N.1 36 1 = nI n := by rw [e.2.1 1 rfl]; exact s2
    exact zfd (fun k (s : Int32 × Int32) i => fX12_weakest_L30 own N k s.1 s.2 i) (wkM own g) (fun s => some s) (-1, 0) n (by omega)
      (fun k i s hi => by
        simp only [fX12_weakest_L30, e1, if_neg (leF hi (by omega)), mCan s4 h6 e, gone_eq hS0 own hi, ← hg, Option.bind_some, zlet, zj, has_0, nI_1, wkM]
        by_cases a : hasB own (nI i) = true <;> by_cases c : s.1 = -1 <;> by_cases b : fJ6_bitCount_0f7a4 s.2 < fJ6_bitCount_0f7a4 (g i) <;> simp [a, b, c, zp])
      (fun k s => by simp only [fX12_weakest_L30, e1, if_pos (leT (Nat.le_refl n) (by omega))])
  have hR := fd_rel (f := wkC own g) (g := wkM own g) (s := ((-1, -1) : Int32 × Int32)) (t := ((-1, 0) : Int32 × Int32)) (fun i x y => (x = (-1, -1) ∧ y = (-1, 0) ∧ ∀ t, t < i → hasB own (nI t) = false) ∨ ∃ t : Nat, t < n ∧ hasB own (nI t) = true ∧ x = (nI t, fJ6_bitCount_0f7a4 (g t)) ∧ y = (nI t, g t)) (Or.inl ⟨rfl, rfl, fun t ht => by omega⟩) (n := n) (fun i x y hi h => by
    rcases h with ⟨rfl, rfl, h3⟩ | ⟨t, ht, hb, rfl, rfl⟩
    · unfold wkC wkM
      by_cases c : hasB own (nI i) = true
      · obtain ⟨v, hv, e⟩ := hgb i
        have hlt : ((-1, -1) : Int32 × Int32).2 < fJ6_bitCount_0f7a4 (g i) := by
          rw [e, Int32.lt_iff_toInt_lt, nI_toInt (by omega), show ((-1, -1) : Int32 × Int32).2.toInt = -1 by decide +kernel]
          omega
        rw [if_pos ⟨c, hlt⟩, if_pos ⟨c, Or.inl rfl⟩]
        exact Or.inr ⟨i, hi, c, rfl, rfl⟩
      · rw [if_neg (fun z => c z.1), if_neg (fun z => c z.1)]
        refine Or.inl ⟨rfl, rfl, fun t ht => ?_⟩
        rcases Nat.lt_or_ge t i with z | z
        · exact h3 t z
        · have : t = i := by omega
          subst this
          simpa using c
    · unfold wkC wkM
      have hne : ¬ nI t = -1 := fun z => nI_ne_m1 (show t < 2 ^ 31 by omega) z.symm
      by_cases c : hasB own (nI i) = true ∧ fJ6_bitCount_0f7a4 (g t) < fJ6_bitCount_0f7a4 (g i)
      · rw [if_pos c, if_pos ⟨c.1, Or.inr c.2⟩]
        exact Or.inr ⟨i, hi, c.1, rfl, rfl⟩
      · rw [if_neg c, if_neg (fun z => c ⟨z.1, z.2.resolve_left hne⟩)]
        exact Or.inr ⟨t, ht, hb, rfl, rfl⟩)
  generalize fd (wkC own g) (-1, -1) n = A at eC hR
  generalize fd (wkM own g) (-1, 0) n = B at eM hR
  rcases hR with ⟨rfl, rfl, hno⟩ | ⟨t, ht, hb, rfl, rfl⟩
  · have h0 : sHad M n 6 = 0 := sHad_none h8 (fun t ht => by rw [← ho]; exact hno t ht)
    refine opR (r := -2) hO ?_ (fun N f => ?_)
    · unfold fX11_weakest
      refine wpO_ek (cHeld (q := 6) hS0 hW (FrC.refl M) (by omega)) ?_
      rw [show sHad M n (nI 6) = own from ho.symm]
      exact wpO_ek (cDo hS0 (FrC.refl M) _) (wpO_ek eC (wpO_fk (by decide) (wpO_ret ⟨rfl, FrC.refl M, rfl, rfl⟩)))
    · unfold fX12_weakest
      exact wM_thrown (fun N0 f0 a1 a2 _ => wpO_ek (mHad s2 h8 ((E12.ofC f).fr f0) 6) (wpO_tk h0 (wpO_ret ⟨rfl, f0, a1, by rw [a2]⟩)))
  · have h0 : ¬ sHad M n 6 = 0 := fun z => by
      rw [← ho] at z
      rw [z, hasB_bt _ (by omega), b_0] at hb
      cases hb
    refine opQ (r := nI t) (l := [(g t).toInt64]) (Nat.le_of_ble_eq_true rfl) ?_ (fun N f => ?_)
    · unfold fX11_weakest
      refine wpO_ek (cHeld (q := 6) hS0 hW (FrC.refl M) (by omega)) ?_
      rw [show sHad M n (nI 6) = own from ho.symm]
      refine wpO_ek (cDo hS0 (FrC.refl M) _) (wpO_ek eC (wpO_tk (nI_pos' (by omega)) (wC_begin (fun N1 f1 r1 => wpO_ek (cNd hS0 f1) ?_))))
      rw [← hg]
      exact wC_tell r1 (Nat.le_of_ble_eq_true rfl) (fun N2 f2 r2 => wpO_ret ⟨rfl, f1.trans f2, r2⟩)
    · unfold fX12_weakest
      refine wM_thrown (fun N0 f0 _ _ _ => wpO_ek (mHad s2 h8 ((E12.ofC f).fr f0) 6) (wpO_fk h0 ?_))
      rw [← ho]
      exact wpO_ek (eM N0 ((E12.ofC f).fr f0)) (wpO_pk (wM_begin (fun N1 f1 r1 => wM_tell r1 (Nat.le_of_ble_eq_true rfl) (fun N2 f2 r2 => wpO_ret ⟨rfl, (f0.trans f1).trans f2, r2⟩))))
/-! fractions -/
theorem lN_0 : lN 0 = 0 := by decide +kernel
theorem lN_eq0 {a : Nat} (h : a < 2 ^ 63) : lN a = 0 ↔ a = 0 := by
  rw [← lN_0]
  exact pk_lEQ h (by omega)
theorem cmp0 {b : Nat} (h : b < 2 ^ 63) : lg_cmp (lN b) 0 = 0 ↔ b = 0 := by
  have hb := lN_eq0 h
  unfold lg_cmp
  by_cases e : b = 0
  · have e2 := hb.mpr e
    rw [e2]
    simp [e]
  · have hne : ¬ lN b = 0 := fun z => e (hb.mp z)
    by_cases g : lN b > 0
    · simp [g, e]
    · simp [g, hne, e]
theorem lrem_N {a b : Nat} (ha : a < 2 ^ 63) (h0 : 0 < b) (hb : b < 2 ^ 63) : zlrem (lN a) (lN b) = lN (a % b) := pk_lRem ha h0 hb
/-- two steps of Euclid halve -/
theorem half {a b : Nat} (hb : 0 < b) (hr : 0 < a % b) : b % (a % b) < (b + 1) / 2 := by
  have h1 : a % b < b := Nat.mod_lt _ hb
  have h2 : b % (a % b) < a % b := Nat.mod_lt _ hr
  rcases Nat.lt_or_ge (a % b) ((b + 1) / 2 + 1) with z | z
  · omega
  · have : b % (a % b) = b - a % b := by
      rw [Nat.mod_eq_sub_mod (by omega), Nat.mod_eq_of_lt (by omega)]
    omega
theorem gcdM : ∀ (k a b n : Nat), a < 2 ^ 62 → b ≤ 2 ^ k → k ≤ 61 → 2 * k + 2 < n → fX12c_grp n 0 (lN a) (lN b) = some (lN (Nat.gcd a b)) := by
  intro k
  induction k with
  | zero =>
    intro a b n ha hb hk hn
    obtain ⟨n, rfl⟩ : ∃ m, n = m + 2 := ⟨n - 2, by omega⟩
    have hb1 : b = 0 ∨ b = 1 := by omega
    rw [fX12c_grp.eq_2, if_pos rfl]
    unfold fX12_common
    rcases hb1 with rfl | rfl
    · rw [if_pos ((cmp0 (by omega)).mpr rfl), Nat.gcd_zero_right]
    · rw [if_neg (fun z => by have := (cmp0 (b := 1) (by omega)).mp z; omega), if_pos (fun z => by have := (lN_eq0 (a := 1) (by omega)).mp z; omega), lrem_N (by omega) (by omega) (by omega), fX12c_grp.eq_2, if_pos rfl]
      unfold fX12_common
      rw [show a % 1 = 0 by omega, if_pos ((cmp0 (by omega)).mpr rfl)]
      simp
  | succ k ih =>
    intro a b n ha hb hk hn
    have hp : 2 ^ (k + 1) ≤ 2 ^ 61 := Nat.pow_le_pow_right (by omega) hk
    have hb62 : b < 2 ^ 62 := by omega
    obtain ⟨n, rfl⟩ : ∃ m, n = m + 2 := ⟨n - 2, by omega⟩
    rw [fX12c_grp.eq_2, if_pos rfl]
    unfold fX12_common
    by_cases b0 : b = 0
    · subst b0
      rw [if_pos ((cmp0 (by omega)).mpr rfl), Nat.gcd_zero_right]
    · rw [if_neg (fun z => b0 ((cmp0 (by omega)).mp z)), if_pos (fun z => b0 ((lN_eq0 (by omega)).mp z)), lrem_N (by omega) (by omega) (by omega), fX12c_grp.eq_2, if_pos rfl]
      have hm : a % b < b := Nat.mod_lt _ (by omega)
      have hg : Nat.gcd a b = Nat.gcd b (a % b) := by rw [Nat.gcd_comm a b, Nat.gcd_rec b a, Nat.gcd_comm]
      unfold fX12_common
      by_cases r0 : a % b = 0
      · rw [r0, if_pos ((cmp0 (by omega)).mpr rfl), hg, r0, Nat.gcd_zero_right]
        rfl
      · rw [if_neg (fun z => r0 ((cmp0 (by omega)).mp z)), if_pos (fun z => r0 ((lN_eq0 (by omega)).mp z)), lrem_N (by omega) (by omega) (by omega)]
        have hh := half (a := a) (b := b) (by omega) (by omega)
        rw [ih (a % b) (b % (a % b)) n (by omega) (by have : 2 ^ (k + 1) = 2 * 2 ^ k := by rw [Nat.pow_succ]; omega
                                                      omega) (by omega) (by omega)]
        have hg2 : Nat.gcd b (a % b) = Nat.gcd (a % b) (b % (a % b)) := by rw [Nat.gcd_comm b (a % b), Nat.gcd_rec (a % b) b, Nat.gcd_comm]
        rw [hg, hg2]
        rfl
theorem gcdC : ∀ (k a b n i : Nat), a < 2 ^ 62 → b ≤ 2 ^ k → k ≤ 61 → 2 * k + 2 < n → i + 2 * k + 2 < 200 → fX3_commonDivisor_L9 n (lN a) (lN b) (nI i) = some (lN (Nat.gcd a b)) := by
  intro k
  induction k with
  | zero =>
    intro a b n i ha hb hk hn hi
    obtain ⟨n, rfl⟩ : ∃ m, n = m + 2 := ⟨n - 2, by omega⟩
    have hb1 : b = 0 ∨ b = 1 := by omega
    rw [fX3_commonDivisor_L9.eq_2, if_neg (show ¬ 200 ≤ nI i from leF (a := 200) (by omega) (by omega))]
    rcases hb1 with rfl | rfl
    · rw [if_pos ((cmp0 (by omega)).mpr rfl), Nat.gcd_zero_right]
    · rw [if_neg (fun z => by have := (cmp0 (b := 1) (by omega)).mp z; omega), if_pos (fun z => by have := (lN_eq0 (a := 1) (by omega)).mp z; omega), lrem_N (by omega) (by omega) (by omega), nI_1]
      simp only [zlet]
      rw [fX3_commonDivisor_L9.eq_2, if_neg (show ¬ 200 ≤ nI (i + 1) from leF (a := 200) (by omega) (by omega)), show a % 1 = 0 by omega, if_pos ((cmp0 (by omega)).mpr rfl)]
      simp
  | succ k ih =>
    intro a b n i ha hb hk hn hi
    have hp : 2 ^ (k + 1) ≤ 2 ^ 61 := Nat.pow_le_pow_right (by omega) hk
    have hb62 : b < 2 ^ 62 := by omega
    obtain ⟨n, rfl⟩ : ∃ m, n = m + 2 := ⟨n - 2, by omega⟩
    rw [fX3_commonDivisor_L9.eq_2, if_neg (show ¬ 200 ≤ nI i from leF (a := 200) (by omega) (by omega))]
    by_cases b0 : b = 0
    · subst b0
      rw [if_pos ((cmp0 (by omega)).mpr rfl), Nat.gcd_zero_right]
    · rw [if_neg (fun z => b0 ((cmp0 (by omega)).mp z)), if_pos (fun z => b0 ((lN_eq0 (by omega)).mp z)), lrem_N (by omega) (by omega) (by omega), nI_1]
      have hm : a % b < b := Nat.mod_lt _ (by omega)
      have hg : Nat.gcd a b = Nat.gcd b (a % b) := by rw [Nat.gcd_comm a b, Nat.gcd_rec b a, Nat.gcd_comm]
      simp only [zlet]
      rw [fX3_commonDivisor_L9.eq_2, if_neg (show ¬ 200 ≤ nI (i + 1) from leF (a := 200) (by omega) (by omega))]
      by_cases r0 : a % b = 0
      · rw [r0, if_pos ((cmp0 (by omega)).mpr rfl), hg, r0, Nat.gcd_zero_right]
      · rw [if_neg (fun z => r0 ((cmp0 (by omega)).mp z)), if_pos (fun z => r0 ((lN_eq0 (by omega)).mp z)), lrem_N (by omega) (by omega) (by omega), nI_1]
        have hh := half (a := a) (b := b) (by omega) (by omega)
        simp only [zlet]
        rw [ih (a % b) (b % (a % b)) n (i + 1 + 1) (by omega) (by have : 2 ^ (k + 1) = 2 * 2 ^ k := by rw [Nat.pow_succ]; omega
                                                                  omega) (by omega) (by omega) (by omega)]
        have hg2 : Nat.gcd b (a % b) = Nat.gcd (a % b) (b % (a % b)) := by rw [Nat.gcd_comm b (a % b), Nat.gcd_rec (a % b) b, Nat.gcd_comm]
        rw [hg, hg2]
/-- the fraction a by b, told by both -/
theorem wC_frac {α : Type} {M : zM} {l : List Int64} {a b : Nat} {f : zM → Option α} {K : α → Prop} (hR : CR M l) (hl : l.length < 15) (ha : a < 2 ^ 62) (hb : b ≤ 2 ^ 40) (hb0 : 0 < b) (k : ∀ N, FrC M N → CR N (l ++ [lN (a / Nat.gcd a b), lN (b / Nat.gcd a b)]) → wpO (f N) K) : wpO ((fX3_tellFraction (lN a) (lN b) M).bind f) K := by
  have hg0 : 0 < Nat.gcd a b := Nat.gcd_pos_of_pos_right a hb0
  have hgb : Nat.gcd a b ≤ b := Nat.gcd_le_right a hb0
  have e : fX3_commonDivisor (lN a) (lN b) = some (lN (Nat.gcd a b)) := by
    unfold fX3_commonDivisor
    rw [show (0 : Int32) = nI 0 from rfl, gcdC 40 a b 4000 0 ha hb (by omega) (by omega) (by omega)]
    rfl
  have c1 : ¬ lg_cmp (lN (Nat.gcd a b)) 0 = 0 := fun z => by have := (cmp0 (by omega)).mp z; omega
  have c2 : ¬ lN (Nat.gcd a b) = 0 := fun z => by have := (lN_eq0 (by omega)).mp z; omega
  unfold fX3_tellFraction
  rw [e]
  simp only [Option.bind_some, if_neg c1, if_pos c2, pk_lDiv (show a < 2 ^ 63 by omega) hg0 (show Nat.gcd a b < 2 ^ 63 by omega), pk_lDiv (show b < 2 ^ 63 by omega) hg0 (show Nat.gcd a b < 2 ^ 63 by omega)]
  refine wpO_bk (wC_tell hR (by omega) (fun N1 f1 r1 => wC_tell r1 (by rw [List.length_append]; show l.length + 1 < 16; omega) (fun N2 f2 r2 => wpO_ret (k N2 (f1.trans f2) (by rw [List.append_assoc] at r2; exact r2)))))
theorem wM_frac {α : Type} {M : zM} {a b : Nat} {f : zM → Option α} {K : α → Prop} (ha : a < 2 ^ 62) (hb : b ≤ 2 ^ 40) (hb0 : 0 < b) (k : ∀ N, FrM M N → MR N [lN (a / Nat.gcd a b), lN (b / Nat.gcd a b)] → wpO (f N) K) : wpO ((fX12_tellPart (lN a) (lN b) M).bind f) K := by
  have hg0 : 0 < Nat.gcd a b := Nat.gcd_pos_of_pos_right a hb0
  have hgb : Nat.gcd a b ≤ b := Nat.gcd_le_right a hb0
  have c2 : ¬ lN (Nat.gcd a b) = 0 := fun z => by have := (lN_eq0 (by omega)).mp z; omega
  unfold fX12_tellPart
  rw [gcdM 40 a b 100 ha hb (by omega) (by omega)]
  simp only [Option.bind_some]
  refine wpO_bk (wM_begin (fun N1 f1 r1 => wpO_tk c2 ?_))
  rw [pk_lDiv (show a < 2 ^ 63 by omega) hg0 (show Nat.gcd a b < 2 ^ 63 by omega), pk_lDiv (show b < 2 ^ 63 by omega) hg0 (show Nat.gcd a b < 2 ^ 63 by omega)]
  exact wM_tell r1 (Nat.le_of_ble_eq_true rfl) (fun N2 f2 r2 => wM_tell r2 (Nat.le_of_ble_eq_true rfl) (fun N3 f3 r3 => wpO_ret (k N3 ((f1.trans f2).trans f3) r3)))
