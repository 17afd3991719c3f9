/-! THE FIXED WORLD: every cell of the class, of the reference and of the law, by its number; where each lies is 'ad'. -/
/-- ints by cell and slot, longs by cell and slot, the references that change (of the reference: read, rule, otherRule) by slot -/
abbrev zM : Type := (Nat → Nat → Int32) × (Nat → Nat → Int64) × (Nat → Option Nat)
def zSL : List (Nat ⊕ (Nat × Nat)) := [.inl 11, .inl 9, .inr (0, 80), .inl 3, .inr (1, 16), .inl 7, .inr (0, 8), .inr (0, 8), .inr (0, 6), .inl 2, .inr (4, 13), .inr (4, 2), .inr (2, 2), .inl 4, .inr (0, 40), .inr (0, 40), .inr (0, 6), .inl 4, .inr (0, 40), .inr (0, 40), .inr (0, 6), .inl 5, .inl 0, .inr (0, 30), .inr (0, 30), .inr (0, 30), .inl 6, .inr (0, 6), .inr (0, 48), .inr (0, 1792), .inl 8, .inr (0, 256), .inr (0, 256), .inr (0, 81), .inl 1, .inr (0, 6), .inl 12, .inr (0, 26), .inr (0, 8), .inr (0, 8), .inr (0, 6), .inr (3, 80), .inr (1, 16), .inr (0, 16), .inr (3, 40), .inr (3, 40), .inr (0, 6), .inr (0, 312), .inr (0, 26), .inr (0, 26), .inr (0, 240), .inr (0, 1792), .inr (0, 12), .inr (1, 6), .inr (0, 10), .inr (1, 6), .inr (0, 52), .inr (2, 2), .inr (0, 2), .inr (1, 1)]
def zRL : List (List Nat) := [[1, 3, 5, 60, 65, 9, 11, 12, 13, 17, 21, 22, 26, 30, 34, 35, 0, 0, 0], [2, 0], [], [4, 0], [], [6, 7, 8, 0, 0], [], [], [], [10, 0, 0], [], [], [], [14, 15, 16, 0], [], [], [], [18, 19, 20, 0], [], [], [], [1, 17, 0, 0], [23, 24, 25, 0], [], [], [], [27, 28, 29], [], [], [], [31, 32, 33], [], [], [], [0, 0, 0], [], [37, 0, 0, 0, 0, 38, 39, 40, 41, 0, 42, 0, 0, 0, 0, 0, 0, 0, 43, 0, 0, 0, 0, 46, 47, 0, 48, 49, 50, 51, 52, 0, 0, 53, 54, 55, 0, 0, 56, 57, 58], [], [], [], [], [], [], [], [], [], [], [], [], [], [], [], [], [], [], [], [], [], [], []]
def zKL : List (List Nat) := [[2, 2, 2, 0], [0, 0, 0], [2, 0, 0], [2, 0], [2, 2, 2, 0], [2, 2, 0, 0], [2, 2, 2], [2, 2, 2, 0, 0], [2, 2, 2], [2, 0], [2, 2, 2, 2, 0, 0], [2, 2, 2, 2, 2, 2, 2, 2, 2, 2, 2, 2, 2, 2, 2, 2, 0, 0, 0], [2, 0, 0, 0, 0, 2, 2, 2, 2, 0, 2, 0, 0, 3, 0, 0, 0, 0, 2, 3, 3, 0, 0, 2, 2, 0, 2, 2, 2, 2, 2, 0, 0, 2, 2, 2, 0, 0, 2, 2, 2]]
/-- what a cell is: a class's number, or an array's kind (0 int, 1 long, 2 boolean, 3 byte, 4 Whereabouts) and length -/
def zSH (k : Nat) : Nat ⊕ (Nat × Nat) := if k < 60 then zSL.getD k (.inl 99) else if k < 145 then (if k % 5 = 0 then .inl 10 else .inr (0, 8)) else .inl 99
def zRF (k j : Nat) : Nat := if k < 60 then (if k = 10 then 80 + 5 * j else if k = 11 then 70 + 5 * j else (zRL.getD k []).getD j 0) else k + 1 + j
def zFK (c j : Nat) : Nat := (zKL.getD c []).getD j 9
def zNf (c : Nat) : Nat := (zKL.getD c []).length
def zLen (k : Nat) : Nat := match zSH k with
  | .inl _ => 0
  | .inr q => q.2
abbrev zTy (cy : Nat → ClassId) : List (ClassId × FieldType) := [(cy 0, .int), (cy 1, .long), (cy 2, .boolean), (cy 3, .byte), (cy 4, .object "LostByState$Whereabouts")]
def zFV (ad : Nat → Nat) (M : zM) (c k j : Nat) : Value := match zFK c j with
  | 0 => .int (M.1 k j)
  | 2 => .ref (ad (zRF k j))
  | _ => va_rf ((M.2.2 j).map ad)
def zA (ad : Nat → Nat) (M : zM) (e k : Nat) : (Nat → Int32) ⊕ (Nat → Int64) ⊕ (Nat → UInt32) ⊕ (Nat → UInt64) ⊕ (Nat → Option Nat) :=
  if e = 1 then .inr (.inl (M.2.1 k)) else if e = 4 then .inr (.inr (.inr (.inr (fun j => some (ad (zRF k j)))))) else .inl (M.1 k)
def zC (cy : Nat → ClassId) (ad : Nat → Nat) (M : zM) (k : Nat) : va_E := match zSH k with
  | .inl c => .inr (c, (List.range (zNf c)).map (zFV ad M c k))
  | .inr q => .inl (cy q.1, q.2, zA ad M q.1 k)
def zW (cy : Nat → ClassId) (ad : Nat → Nat) (M : zM) : va_W := (List.range 145).map (fun k => (ad k, zC cy ad M k))
theorem zW_get (cy : Nat → ClassId) (ad : Nat → Nat) (M : zM) {k : Nat} (h : k < 145) : (zW cy ad M)[k]? = some (ad k, zC cy ad M k) := by
  simp [zW, h]
theorem zSH_lt {k : Nat} (h : zSH k ≠ .inl 99) : k < 145 := by
  unfold zSH at h
  split at h
  · omega
  · split at h
    · omega
    · exact absurd rfl h
theorem zW_set {cy : Nat → ClassId} {ad : Nat → Nat} {M M' : zM} {k : Nat} (h : ∀ j, j ≠ k → zC cy ad M j = zC cy ad M' j) : (zW cy ad M).set k (ad k, zC cy ad M' k) = zW cy ad M' := by
  apply List.ext_getElem?
  intro i
  by_cases hi : i = k
  · subst hi
    by_cases hl : i < 145
    · rw [List.getElem?_set_self (by simp [zW, hl]), zW_get _ _ _ hl]
    · rw [List.getElem?_eq_none (by simp [zW]; omega), List.getElem?_eq_none (by simp [zW]; omega)]
  · rw [List.getElem?_set_ne (Ne.symm hi)]
    by_cases hl : i < 145
    · rw [zW_get _ _ _ hl, zW_get _ _ _ hl, h i hi]
    · rw [List.getElem?_eq_none (by simp [zW]; omega), List.getElem?_eq_none (by simp [zW]; omega)]
theorem zW_addr {cy : Nat → ClassId} {ad : Nat → Nat} (M M' : zM) (sz : Nat) : va_A (zW cy ad M) sz = va_A (zW cy ad M') sz := by
  funext q
  apply propext
  constructor
  · rintro (⟨k, e, h⟩ | h)
    · have hl : k < 145 := by
        have := (List.getElem?_eq_some_iff.mp h).1
        simpa [zW] using this
      rw [zW_get _ _ _ hl] at h
      cases h
      exact Or.inl ⟨k, _, zW_get _ _ _ hl⟩
    · exact Or.inr h
  · rintro (⟨k, e, h⟩ | h)
    · have hl : k < 145 := by
        have := (List.getElem?_eq_some_iff.mp h).1
        simpa [zW] using this
      rw [zW_get _ _ _ hl] at h
      cases h
      exact Or.inl ⟨k, _, zW_get _ _ _ hl⟩
    · exact Or.inr h
/-- classes of the cells -/
theorem zSH_cls {k c : Nat} (h : zSH k = .inl c) : c < 13 ∨ c = 99 := by
  unfold zSH at h
  split at h
  · rename_i hk
    have := (show ∀ k, k < 60 → ∀ c, zSL.getD k (.inl 99) = .inl c → c < 13 ∨ c = 99 by
      have key : ∀ k, k < 60 → (match zSL.getD k (.inl 99) with | .inl c => decide (c < 13 ∨ c = 99) | .inr _ => true) = true := by decide +kernel
      intro k hk c hc
      have := key k hk
      rw [hc] at this
      exact of_decide_eq_true this) k hk c h
    exact this
  · split at h
    · split at h
      · cases h; omega
      · cases h
    · cases h; omega
theorem zOne12 {a b : Nat} (ha : zSH a = .inl 12) (hb : zSH b = .inl 12) : a = b := by
  have key : ∀ k, zSH k = .inl 12 → k = 36 := by
    intro k h
    unfold zSH at h
    split at h
    · rename_i hk
      have q : ∀ k, k < 60 → (match zSL.getD k (.inl 99) with | .inl c => decide (c = 12 → k = 36) | .inr _ => true) = true := by decide +kernel
      have := q k hk
      rw [h] at this
      exact of_decide_eq_true this rfl
    · split at h
      · split at h
        · cases h
        · cases h
      · cases h
  rw [key a ha, key b hb]
theorem zNo3 {c i : Nat} (hc : c < 13 ∨ c = 99) (h12 : c ≠ 12) (hi : i < zNf c) : zFK c i ≠ 3 ∧ (zFK c i = 0 ∨ zFK c i = 2) := by
  rcases hc with hc | rfl
  · have q : ∀ c, c < 12 → ∀ i, i < zNf c → zFK c i ≠ 3 ∧ (zFK c i = 0 ∨ zFK c i = 2) := by decide +kernel
    exact q c (by omega) i hi
  · rw [show zNf 99 = 0 by decide +kernel] at hi; omega
/-! memory: writes -/
def zSI (M : zM) (k j : Nat) (x : Int32) : zM := (fun a b => if a = k ∧ b = j then x else M.1 a b, M.2.1, M.2.2)
def zSJ (M : zM) (k j : Nat) (x : Int64) : zM := (M.1, fun a b => if a = k ∧ b = j then x else M.2.1 a b, M.2.2)
def zSD (M : zM) (j : Nat) (x : Option Nat) : zM := (M.1, M.2.1, fun b => if b = j then x else M.2.2 b)
/-- a whole row of ints anew -/
def zSA (M : zM) (k : Nat) (f : Nat → Int32) : zM := (fun a => if a = k then f else M.1 a, M.2.1, M.2.2)
theorem zSI_row (M : zM) (k j : Nat) (x : Int32) : (zSI M k j x).1 k = upd (M.1 k) j x := by
  funext b
  simp [zSI, upd]
theorem zSI_other (M : zM) {k a : Nat} (j : Nat) (x : Int32) (h : a ≠ k) : (zSI M k j x).1 a = M.1 a := by
  funext b
  simp [zSI, h]
theorem zSJ_row (M : zM) (k j : Nat) (x : Int64) : (zSJ M k j x).2.1 k = vp_updL (M.2.1 k) j x := by
  funext b
  simp [zSJ, vp_updL]
theorem zSJ_other (M : zM) {k a : Nat} (j : Nat) (x : Int64) (h : a ≠ k) : (zSJ M k j x).2.1 a = M.2.1 a := by
  funext b
  simp [zSJ, h]
/-! cells: reads and writes of them -/
theorem zC_obj {cy : Nat → ClassId} {ad : Nat → Nat} {M : zM} {k c : Nat} (h : zSH k = .inl c) : zC cy ad M k = .inr (c, (List.range (zNf c)).map (zFV ad M c k)) := by
  unfold zC; rw [h]
theorem zC_arr {cy : Nat → ClassId} {ad : Nat → Nat} {M : zM} {k e n : Nat} (h : zSH k = .inr (e, n)) : zC cy ad M k = .inl (cy e, n, zA ad M e k) := by
  unfold zC; rw [h]
theorem zSet_map {α : Type} (n : Nat) (f g : Nat → α) (j : Nat) (h : ∀ i, i ≠ j → f i = g i) : ((List.range n).map f).set j (g j) = (List.range n).map g := by
  apply List.ext_getElem?
  intro i
  by_cases hi : i = j
  · subst hi
    by_cases hl : i < n
    · rw [List.getElem?_set_self (by simp [hl])]; simp [hl]
    · rw [List.getElem?_eq_none (by simp; omega), List.getElem?_eq_none (by simp; omega)]
  · rw [List.getElem?_set_ne (Ne.symm hi)]
    by_cases hl : i < n
    · simp [hl, h i hi]
    · rw [List.getElem?_eq_none (by simp; omega), List.getElem?_eq_none (by simp; omega)]
theorem zFV_SI {ad : Nat → Nat} {M : zM} {c k a i j : Nat} {x : Int32} (h : a ≠ k ∨ i ≠ j) : zFV ad (zSI M k j x) c a i = zFV ad M c a i := by
  unfold zFV
  split
  · simp only [zSI]
    rw [if_neg (fun q => h.elim (fun z => z q.1) (fun z => z q.2))]
  · rfl
  · rfl
theorem zFV_SD {ad : Nat → Nat} {M : zM} {c k i j : Nat} {x : Option Nat} (h : i ≠ j ∨ zFK c i ≠ 3 ∧ (zFK c i = 0 ∨ zFK c i = 2)) : zFV ad (zSD M j x) c k i = zFV ad M c k i := by
  unfold zFV
  split
  · rfl
  · rfl
  · rename_i h0 h2
    rcases h with h | ⟨-, h | h⟩
    · simp only [zSD, if_neg h]
    · exact absurd h h0
    · exact absurd h h2
/-- an int field of an object is written -/
theorem zW_putI {cy : Nat → ClassId} {ad : Nat → Nat} {M : zM} {k c j : Nat} {x : Int32} (hk : zSH k = .inl c) (hf : zFK c j = 0) :
    (zW cy ad M).set k (ad k, .inr (c, ((List.range (zNf c)).map (zFV ad M c k)).set j (.int x))) = zW cy ad (zSI M k j x) := by
  have e1 : (Value.int x) = zFV ad (zSI M k j x) c k j := by unfold zFV; rw [hf]; simp [zSI]
  rw [e1, zSet_map _ _ _ _ (fun i hi => (zFV_SI (Or.inr hi)).symm), ← zC_obj (cy := cy) (M := zSI M k j x) hk]
  refine zW_set (fun a ha => ?_)
  unfold zC
  split
  · rename_i c' hc'
    refine congrArg (fun z => Sum.inr (c', z)) (List.map_congr_left (fun i _ => (zFV_SI (Or.inl ha)).symm))
  · rename_i q hq
    refine congrArg (fun z => Sum.inl (cy q.1, q.2, z)) ?_
    unfold zA
    rw [zSI_other M j x ha]; rfl
theorem zA_SI {ad : Nat → Nat} {M : zM} {e k a j : Nat} {x : Int32} (h : a ≠ k) : zA ad (zSI M k j x) e a = zA ad M e a := by
  unfold zA
  rw [zSI_other M j x h]; rfl
/-- an element of an array of ints (bytes, booleans) is written -/
theorem zW_ast {cy : Nat → ClassId} {ad : Nat → Nat} {M : zM} {k e n j : Nat} {x : Int32} (hk : zSH k = .inr (e, n)) (he1 : e ≠ 1) (he4 : e ≠ 4) :
    (zW cy ad M).set k (ad k, .inl (cy e, n, .inl (upd (M.1 k) j x))) = zW cy ad (zSI M k j x) := by
  have e1 : (Sum.inl (cy e, n, Sum.inl (upd (M.1 k) j x)) : va_E) = zC cy ad (zSI M k j x) k := by
    rw [zC_arr hk, zA, if_neg he1, if_neg he4, zSI_row]
  rw [e1]
  refine zW_set (fun a ha => ?_)
  unfold zC
  split
  · rename_i c' hc'
    refine congrArg (fun z => Sum.inr (c', z)) (List.map_congr_left (fun i _ => (zFV_SI (Or.inl ha)).symm))
  · rename_i q hq
    exact congrArg (fun z => Sum.inl (cy q.1, q.2, z)) (zA_SI ha).symm
theorem zFV_SJ {ad : Nat → Nat} {M : zM} {c k a i j : Nat} {x : Int64} : zFV ad (zSJ M k j x) c a i = zFV ad M c a i := rfl
theorem zW_last {cy : Nat → ClassId} {ad : Nat → Nat} {M : zM} {k n j : Nat} {x : Int64} (hk : zSH k = .inr (1, n)) :
    (zW cy ad M).set k (ad k, .inl (cy 1, n, .inr (.inl (vp_updL (M.2.1 k) j x)))) = zW cy ad (zSJ M k j x) := by
  have e1 : (Sum.inl (cy 1, n, Sum.inr (Sum.inl (vp_updL (M.2.1 k) j x))) : va_E) = zC cy ad (zSJ M k j x) k := by
    rw [zC_arr hk, zA, if_pos rfl, zSJ_row]
  rw [e1]
  refine zW_set (fun a ha => ?_)
  unfold zC
  split
  · rfl
  · rename_i q hq
    refine congrArg (fun z => Sum.inl (cy q.1, q.2, z)) ?_
    unfold zA
    rw [zSJ_other M j x ha]; rfl
theorem zW_putD {cy : Nat → ClassId} {ad : Nat → Nat} {M : zM} {k j a : Nat} (hk : zSH k = .inl 12) (hf : zFK 12 j = 3) :
    (zW cy ad M).set k (ad k, .inr (12, ((List.range (zNf 12)).map (zFV ad M 12 k)).set j (.ref (ad a)))) = zW cy ad (zSD M j (some a)) := by
  have e1 : (Value.ref (ad a)) = zFV ad (zSD M j (some a)) 12 k j := by unfold zFV; rw [hf]; simp [zSD, va_rf]
  rw [e1, zSet_map _ _ _ _ (fun i hi => (zFV_SD (Or.inl hi)).symm), ← zC_obj (cy := cy) (M := zSD M j (some a)) hk]
  refine zW_set (fun b hb => ?_)
  unfold zC
  split
  · rename_i c' hc'
    refine congrArg (fun z => Sum.inr (c', z)) (List.map_congr_left (fun i hi => ?_))
    by_cases hc : c' = 12
    · subst hc
      exfalso
      exact hb (zOne12 hc' hk)
    · exact (zFV_SD (Or.inr (zNo3 (zSH_cls hc') hc (List.mem_range.mp hi)))).symm
  · rfl
theorem zW_row {cy : Nat → ClassId} {ad : Nat → Nat} {M : zM} {k n : Nat} {f : Nat → Int32} (hk : zSH k = .inr (0, n)) :
    (zW cy ad M).set k (ad k, .inl (cy 0, n, .inl f)) = zW cy ad (zSA M k f) := by
  have e1 : (Sum.inl (cy 0, n, Sum.inl f) : va_E) = zC cy ad (zSA M k f) k := by
    rw [zC_arr hk, zA, if_neg (by decide), if_neg (by decide)]; simp [zSA]
  rw [e1]
  refine zW_set (fun a ha => ?_)
  have e2 : (zSA M k f).1 a = M.1 a := by simp [zSA, ha]
  unfold zC
  split
  · rename_i c' hc'
    refine congrArg (fun z => Sum.inr (c', z)) (List.map_congr_left (fun i _ => ?_))
    unfold zFV
    rw [e2]; rfl
  · rename_i q hq
    refine congrArg (fun z => Sum.inl (cy q.1, q.2, z)) ?_
    unfold zA
    rw [e2]; rfl
