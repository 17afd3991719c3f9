def bt (x : Int32) (i : Nat) : Bool := x.toBitVec.getLsbD i
theorem b_ext {x y : Int32} (h : ∀ i, i < 32 → bt x i = bt y i) : x = y := Int32.toBitVec_inj.mp (BitVec.eq_of_getLsbD_eq (fun i hi => h i hi))
theorem b_or (x y : Int32) (i : Nat) : bt (x ||| y) i = (bt x i || bt y i) := by unfold bt; rw [Int32.toBitVec_or, BitVec.getLsbD_or]
theorem b_and (x y : Int32) (i : Nat) : bt (x &&& y) i = (bt x i && bt y i) := by unfold bt; rw [Int32.toBitVec_and, BitVec.getLsbD_and]
theorem b_xor (x y : Int32) (i : Nat) : bt (x ^^^ y) i = (bt x i ^^ bt y i) := by unfold bt; rw [Int32.toBitVec_xor, BitVec.getLsbD_xor]
theorem b_big {x : Int32} {i : Nat} (h : 32 ≤ i) : bt x i = false := BitVec.getLsbD_of_ge _ _ h
theorem b_m1 : ∀ i, i < 32 → bt (-1) i = true := by decide +kernel
theorem b_0 (i : Nat) : bt 0 i = false := BitVec.getLsbD_zero
theorem s_l : ∀ n, n < 32 → ((nI n &&& 31).toBitVec.smod 32).toNat = n := by decide +kernel
theorem s_u : ∀ n, n < 32 → (((nI n).toUInt32 &&& Int32.toUInt32 31).toBitVec % 32).toNat = n := by decide +kernel
theorem b_shl (n : Nat) (hn : n < 32) (x : Int32) {i : Nat} (hi : i < 32) : bt (x <<< (nI n &&& 31)) i = (decide (n ≤ i) && bt x (i - n)) := by
  unfold bt
  rw [Int32.toBitVec_shiftLeft]
  show (x.toBitVec <<< ((nI n &&& 31).toBitVec.smod 32).toNat).getLsbD i = _
  rw [s_l n hn, BitVec.getLsbD_shiftLeft]
  rcases Nat.lt_or_ge i n with h | h
  · simp [h, Nat.not_le.mpr h]
  · simp [hi, h, Nat.not_lt.mpr h]
theorem b_ushr (n : Nat) (hn : n < 32) (x : Int32) (i : Nat) : bt ((x.toUInt32 >>> ((nI n).toUInt32 &&& Int32.toUInt32 31)).toInt32) i = bt x (n + i) := by
  show (x.toUInt32 >>> ((nI n).toUInt32 &&& Int32.toUInt32 31)).toBitVec.getLsbD i = x.toUInt32.toBitVec.getLsbD (n + i)
  rw [UInt32.toBitVec_shiftRight]
  show (x.toUInt32.toBitVec >>> (((nI n).toUInt32 &&& Int32.toUInt32 31).toBitVec % 32).toNat).getLsbD i = _
  rw [s_u n hn, BitVec.getLsbD_ushiftRight]
theorem b_sshr (n : Nat) (hn : n < 32) (x : Int32) {i : Nat} (hi : i < 32) : bt (x >>> (nI n &&& 31)) i = if n + i < 32 then bt x (n + i) else bt x 31 := by
  unfold bt
  rw [Int32.toBitVec_shiftRight]
  show (x.toBitVec.sshiftRight ((nI n &&& 31).toBitVec.smod 32).toNat).getLsbD i = _
  rw [s_l n hn, BitVec.getLsbD_sshiftRight, BitVec.msb_eq_getLsbD_last]
  simp [hi]
theorem bt_nI (v : Nat) {i : Nat} (hi : i < 32) : bt (nI v) i = v.testBit i := by
  show (BitVec.ofNat 32 v).getLsbD i = v.testBit i
  rw [BitVec.getLsbD_ofNat]
  simp [hi]
theorem bt_one {i : Nat} (hi : i < 32) : bt 1 i = decide (i = 0) := (by decide +kernel : ∀ i, i < 32 → bt 1 i = decide (i = 0)) i hi
theorem bt_shl1 {t i : Nat} (ht : t < 32) (hi : i < 32) : bt (zshl 1 (nI t)) i = decide (i = t) := by
  unfold zshl
  rw [b_shl t ht 1 hi]
  rcases Nat.lt_or_ge i t with h | h
  · simp [Nat.not_le.mpr h, show ¬ i = t by omega]
  · rw [bt_one (show i - t < 32 by omega)]
    by_cases e : i = t
    · subst e; simp
    · simp [h, e, show ¬ i - t = 0 by omega]
theorem bt_bsA {p : Nat → Bool} : ∀ {n : Nat}, n ≤ 32 → ∀ {i : Nat}, i < 32 → bt (bsA p n) i = (decide (i < n) && p i)
  | 0, _, i, _ => by simp [bsA, b_0]
  | n + 1, hn, i, hi => by
    have ih := bt_bsA (p := p) (n := n) (by omega) hi
    show bt (if p n = true then bsA p n ||| zshl 1 (nI n) else bsA p n) i = _
    by_cases hp : p n = true
    · rw [if_pos hp, b_or, ih, bt_shl1 (by omega) hi]
      by_cases e : i = n
      · subst e; simp [hp]
      · have : decide (i < n + 1) = decide (i < n) := by by_cases h : i < n <;> simp [h] <;> omega
        simp [e, this]
    · rw [if_neg hp, ih]
      by_cases e : i = n
      · subst e; simp [hp]
      · have : decide (i < n + 1) = decide (i < n) := by by_cases h : i < n <;> simp [h] <;> omega
        simp [this]
theorem b_not (x : Int32) {i : Nat} (hi : i < 32) : bt (x ^^^ (-1)) i = !bt x i := by
  rw [b_xor, b_m1 i hi]
  simp
theorem and1 (x : Int32) : x &&& 1 = if bt x 0 = true then 1 else 0 := by
  apply b_ext
  intro i hi
  rw [b_and, bt_one hi]
  by_cases e : i = 0
  · subst e
    by_cases h : bt x 0 = true
    · rw [if_pos h]; simp [h, bt_one]
    · rw [if_neg h]; simp [h, b_0]
  · split
    · simp [e, bt_one hi]
    · simp [e, b_0]
theorem hasB_bt (x : Int32) {t : Nat} (ht : t < 32) : hasB x (nI t) = bt x t := by
  unfold hasB zshr
  rw [and1, b_sshr t ht x (by omega)]
  simp only [Nat.add_zero, ht, if_true]
  cases bt x t <;> simp
theorem zshl_bit (x y : Int32) (d : Nat) : zshl (zshr x y &&& 1) (nI d) = if hasB x y = true then zshl 1 (nI d) else 0 := by
  unfold hasB
  by_cases h : zshr x y &&& 1 = 1
  · simp [h]
  · have h0 : zshr x y &&& 1 = 0 := by
      rw [and1] at h ⊢
      split <;> simp_all
    rw [h0]
    simp only [show ¬ (0 : Int32) = 1 by decide, decide_false, Bool.false_eq_true, if_false]
    unfold zshl
    apply Int32.toBitVec_inj.mp
    simp
theorem pX7_deedsThatNeed {x : Int32} {M : zM} {nd : Nat} (hd : M.1 5 4 = nI nd) (hn : nd ≤ 6) : fX7_deedsThatNeed x M = some (bsA (fun d => hasB (M.1 8 d) x) nd) := by
  unfold fX7_deedsThatNeed
  rw [show fX7_deedsThatNeed_L4 x M 4000 0 0 = some (bsA (fun d => hasB (M.1 8 d) x) nd) from zfor (fun n (s : Int32 × Int32) => fX7_deedsThatNeed_L4 x M n s.1 s.2) (fun i => (bsA (fun d => hasB (M.1 8 d) x) i, nI i)) nd _
    (fun n i hi => by
      have h1 : i < 2 ^ 31 := by omega
      simp only [fX7_deedsThatNeed_L4, hd, if_neg (leF hi (by omega)), if_pos (zinT (show i < 6 by omega) h1), nI_clamp h1, nI_1, zlet, bsA, zshl_bit]
      split <;> simp only [ior_0])
    (fun n => by simp only [fX7_deedsThatNeed_L4, hd, if_pos (leT (Nat.le_refl nd) (by omega))])
    nd 0 4000 (by omega) (by omega)]
  rfl
theorem pX12_neededBy {x : Int32} {M : zM} {nd : Nat} (hd : M.1 36 2 = nI nd) (hn : nd ≤ 6) : fX12_neededBy x M = some (bsA (fun d => hasB (M.1 40 d) x) nd) := by
  unfold fX12_neededBy
  rw [show fX12_neededBy_L4 x M 4000 0 0 = some (bsA (fun d => hasB (M.1 40 d) x) nd) from zfor (fun n (s : Int32 × Int32) => fX12_neededBy_L4 x M n s.1 s.2) (fun i => (bsA (fun d => hasB (M.1 40 d) x) i, nI i)) nd _
    (fun n i hi => by
      have h1 : i < 2 ^ 31 := by omega
      simp only [fX12_neededBy_L4, hd, if_neg (leF hi (by omega)), if_pos (zinT (show i < 6 by omega) h1), nI_clamp h1, nI_1, zlet, bsA, has_0]
      by_cases hb : hasB (M.1 40 i) x = true <;> simp [hb, ior_0])
    (fun n => by simp only [fX12_neededBy_L4, hd, if_pos (leT (Nat.le_refl nd) (by omega))])
    nd 0 4000 (by omega) (by omega)]
  rfl
theorem pX7_thingsMarked {x : Int32} {M : zM} {n : Nat} (hn : M.1 5 3 = nI n) (h8 : n ≤ 8) : fX7_thingsMarked x M = some (bsA (fun t => hasB (M.1 6 t) x) n) := by
  unfold fX7_thingsMarked
  rw [show fX7_thingsMarked_L4 x M 4000 0 0 = some (bsA (fun t => hasB (M.1 6 t) x) n) from zfor (fun k (s : Int32 × Int32) => fX7_thingsMarked_L4 x M k s.1 s.2) (fun i => (bsA (fun t => hasB (M.1 6 t) x) i, nI i)) n _
    (fun k i hi => by
      have h1 : i < 2 ^ 31 := by omega
      simp only [fX7_thingsMarked_L4, hn, if_neg (leF hi (by omega)), if_pos (zinT (show i < 8 by omega) h1), nI_clamp h1, nI_1, zlet, bsA, zshl_bit]
      split <;> simp only [ior_0])
    (fun k => by simp only [fX7_thingsMarked_L4, hn, if_pos (leT (Nat.le_refl n) (by omega))])
    n 0 4000 (by omega) (by omega)]
  rfl
/-! a thing, a deed that is there -/
theorem out_lt {x : Int32} {n : Nat} (hn : n < 2 ^ 31) (h : x < 0 ∨ nI n ≤ x) (h0 : ¬ x < 0) : nI n ≤ x ∧ nI n - 1 < x := by
  rcases h with h | h
  · exact absurd h h0
  · refine ⟨h, ?_⟩
    have a := Int32.le_iff_toInt_le.mp h
    rw [nI_toInt hn] at a
    rw [Int32.lt_iff_toInt_lt]
    by_cases z : n = 0
    · subst z
      have b : ¬ x.toInt < 0 := fun q => h0 (Int32.lt_iff_toInt_lt.mpr q)
      rw [show (nI 0 - 1).toInt = -1 by decide +kernel]
      omega
    · obtain ⟨m, rfl⟩ : ∃ m, n = m + 1 := ⟨n - 1, by omega⟩
      rw [nI_pred, nI_toInt (by omega)]
      omega
theorem in_nlt {t n : Nat} (hn : n < 2 ^ 31) (h : t < n) : ¬ nI n - 1 < nI t := by
  obtain ⟨m, rfl⟩ : ∃ m, n = m + 1 := ⟨n - 1, by omega⟩
  rw [nI_pred]
  exact ltF (by omega) (by omega)
theorem isThingC0 {M : zM} {n : Nat} (hn : M.1 5 3 = nI n) (h8 : n < 2 ^ 31) {x : Int32} (h : x < 0 ∨ nI n ≤ x) : fX11_isThing x M = 0 := by
  unfold fX11_isThing
  rw [hn]
  by_cases h0 : x < 0
  · rw [if_pos h0]
  · rw [if_neg h0, if_pos (out_lt h8 h h0).1]
theorem isThingC1 {M : zM} {n t : Nat} (hn : M.1 5 3 = nI n) (h8 : n < 2 ^ 31) (h : t < n) : fX11_isThing (nI t) M = 1 := by
  unfold fX11_isThing
  rw [hn, if_neg (nI_nneg (by omega)), if_neg (leF h h8)]
theorem isDeedC0 {M : zM} {n : Nat} (hn : M.1 5 4 = nI n) (h8 : n < 2 ^ 31) {x : Int32} (h : x < 0 ∨ nI n ≤ x) : fX11_isDeed x M = 0 := by
  unfold fX11_isDeed
  rw [hn]
  by_cases h0 : x < 0
  · rw [if_pos h0]
  · rw [if_neg h0, if_pos (out_lt h8 h h0).1]
theorem isDeedC1 {M : zM} {n t : Nat} (hn : M.1 5 4 = nI n) (h8 : n < 2 ^ 31) (h : t < n) : fX11_isDeed (nI t) M = 1 := by
  unfold fX11_isDeed
  rw [hn, if_neg (nI_nneg (by omega)), if_neg (leF h h8)]
theorem in0 {n : Nat} (h8 : n < 2 ^ 31) {x : Int32} (h : x < 0 ∨ nI n ≤ x) : fX12_in x 0 (nI n - 1) = 0 := by
  unfold fX12_in
  by_cases h0 : x < 0
  · rw [if_pos h0]
  · rw [if_neg h0, if_pos (out_lt h8 h h0).2]
theorem in1 {n t : Nat} (h8 : n < 2 ^ 31) (h : t < n) : fX12_in (nI t) 0 (nI n - 1) = 1 := by
  unfold fX12_in
  rw [if_neg (nI_nneg (by omega)), if_neg (in_nlt h8 h)]
theorem isThingM0 {M : zM} {n : Nat} (hn : M.1 36 1 = nI n) (h8 : n < 2 ^ 31) {x : Int32} (h : x < 0 ∨ nI n ≤ x) : fX12_isThing x M = 0 := by
  unfold fX12_isThing; rw [hn]; exact in0 h8 h
theorem isThingM1 {M : zM} {n t : Nat} (hn : M.1 36 1 = nI n) (h8 : n < 2 ^ 31) (h : t < n) : fX12_isThing (nI t) M = 1 := by
  unfold fX12_isThing; rw [hn]; exact in1 h8 h
theorem isDeedM0 {M : zM} {n : Nat} (hn : M.1 36 2 = nI n) (h8 : n < 2 ^ 31) {x : Int32} (h : x < 0 ∨ nI n ≤ x) : fX12_isDeed x M = 0 := by
  unfold fX12_isDeed; rw [hn]; exact in0 h8 h
theorem isDeedM1 {M : zM} {n t : Nat} (hn : M.1 36 2 = nI n) (h8 : n < 2 ^ 31) (h : t < n) : fX12_isDeed (nI t) M = 1 := by
  unfold fX12_isDeed; rw [hn]; exact in1 h8 h
theorem split_ix (x : Int32) {n : Nat} (h : n < 2 ^ 31) : (x < 0 ∨ nI n ≤ x) ∨ ∃ t, t < n ∧ x = nI t := by
  rcases pk_ix x h with a | a | a
  · exact Or.inl (Or.inl a)
  · exact Or.inl (Or.inr a)
  · exact Or.inr a
