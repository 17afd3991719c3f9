/-! THE RELATION between the class's cells and the reference's -/
def RWt (h p d f how who days : Int32) : Prop :=
  (how = 0 ∧ (∃ q : Nat, q ≤ 6 ∧ who = nI q) ∧ h = who ∧ p = -1 ∧ d = -1 ∧ f = -1) ∨
  (how = 1 ∧ (∃ q : Nat, q < 6 ∧ who = nI q) ∧ h = -1 ∧ p = who ∧ d = -1 ∧ f = -1) ∨
  (how = 2 ∧ (∃ q : Nat, q < 6 ∧ who = nI q) ∧ (∃ e : Nat, e ≤ 99 ∧ days = nI e) ∧ h = -1 ∧ p = -1 ∧ d = days ∧ f = who)
/-- the Whereabouts w tells what the row a tells from place o on, of n things -/
def RW (M : zM) (n w a o : Nat) : Prop :=
  (∀ t, t < n → RWt (M.1 (w + 1) t) (M.1 (w + 2) t) (M.1 (w + 3) t) (M.1 (w + 4) t) (M.1 a (o + t)) (M.1 a (o + (8 + t))) (M.1 a (o + (16 + t)))) ∧
  (∀ t, n ≤ t → t < 8 → M.1 (w + 1) t = -1 ∧ M.1 (w + 2) t = -1 ∧ M.1 (w + 3) t = -1 ∧ M.1 (w + 4) t = -1) ∧
  M.1 w 4 = M.1 a (o + 24) ∧ M.1 w 5 = M.1 a (o + 25)
/-- things and deeds -/
def RS (M : zM) (n nd : Nat) : Prop :=
  (n ≤ 8 ∧ nd ≤ 6) ∧ (M.1 5 3 = nI n ∧ M.1 36 1 = nI n ∧ M.1 5 4 = nI nd ∧ M.1 36 2 = nI nd) ∧
  (∀ t, t < n → M.1 6 t = M.1 38 t ∧ ∃ m : Nat, m < 256 ∧ M.1 38 t = nI m) ∧
  (∀ t, t < n → M.1 7 t = M.1 39 t ∧ ∃ v : Nat, 1 ≤ v ∧ v ≤ 9 ∧ M.1 39 t = nI v) ∧
  (∀ d, d < nd → M.1 8 d = M.1 40 d ∧ ∃ v : Nat, 0 < v ∧ v < 2 ^ n ∧ M.1 40 d = nI v)
/-- THE TEXT -/
def RX (M : zM) : Prop := ∃ k : Nat, k ≤ 80 ∧ M.1 1 1 = nI k ∧ M.1 36 9 = nI k ∧ ∀ j, j < k → ∃ b : Nat, b < 256 ∧ M.1 2 j = nI b ∧ M.1 41 j = (nI b).toInt8.toInt32
/-- THE ROW: of the class, of the reference -/
def CR (M : zM) (l : List Int64) : Prop := M.1 3 1 = nI l.length ∧ ∀ j v, l[j]? = some v → M.2.1 4 j = v
def MR (M : zM) (l : List Int64) : Prop := M.1 36 11 = nI l.length ∧ ∀ j v, l[j]? = some v → M.2.1 42 j = v
def RO (M : zM) : Prop := ∃ l : List Int64, l.length ≤ 16 ∧ CR M l ∧ MR M l
/-- what can be undone -/
def RP (M : zM) (n : Nat) : Prop := ∃ u x : Nat, u ≤ 12 ∧ x < 13 ∧ M.1 9 1 = nI x ∧ M.1 9 2 = nI u ∧ M.1 36 25 = nI u ∧ ∀ i, i < u → RW M n (80 + 5 * ((x + 13 - u + i) % 13)) 47 (26 * i)
/-- what is kept -/
def RK (M : zM) (n N : Nat) : Prop := ∃ c : Nat, c ≤ N ∧ M.1 36 37 = nI c ∧ ∀ i, i < 2 → (M.1 12 i = 0 ∨ M.1 12 i = 1) ∧ (M.1 57 i = 0 ∨ M.1 57 i = 1) ∧ (∃ ci : Nat, ci ≤ c ∧ M.1 58 i = nI ci) ∧ (M.1 12 i = 1 ↔ (M.1 57 i = 1 ∧ M.1 58 i = M.1 36 37)) ∧ (M.1 12 i = 1 → RW M n (70 + 5 * i) 56 (26 * i))
/-- TERM, NEED, the reference's two rules -/
def RC (M : zM) : Prop := (∃ τ : Nat, 1 ≤ τ ∧ τ ≤ 99 ∧ M.1 0 17 = nI τ) ∧ M.1 0 17 = M.1 36 3 ∧ M.1 0 18 = M.1 36 4 ∧ (-99 ≤ (M.1 36 4).toInt ∧ (M.1 36 4).toInt ≤ 99) ∧ M.2.2 19 = some 44 ∧ M.2.2 20 = some 45
/-- a bit, as both ask it -/
def hasB (x y : Int32) : Bool := decide (zshr x y &&& 1 = 1)
/-- what was said -/
def RH (M : zM) : Prop := ∃ s : Nat, s ≤ 12 ∧ M.1 34 2 = nI s ∧ M.1 36 32 = nI s ∧ (∀ k, k < s → ∃ m : Nat, m < 8 ∧ M.1 52 k = nI m) ∧
  ∀ m : Nat, m < 256 → ((M.1 34 0 &&& (nI m ^^^ (-1)) = 0 ∧ M.1 34 1 &&& nI m = 0) ↔ ∀ k, k < s → hasB (nI m) (M.1 52 k) = hasB (M.1 36 31) (nI k))
/-! what stays: the rows and slots on which the relation rests -/
def pr (k : Nat) : Bool := (k == 1) || (k == 2) || (5 ≤ k && k ≤ 9) || (k == 12) || (k == 13) || (k == 14) || (k == 34) || (37 ≤ k && k ≤ 41) || (k == 44) || (k == 47) || (k == 52) || (56 ≤ k && k ≤ 58) || (60 ≤ k && k ≤ 64) || (70 ≤ k && k ≤ 144)
def ps (j : Nat) : Bool := (1 ≤ j && j ≤ 4) || (j == 9) || (j == 21) || (j == 25) || (j == 31) || (j == 32) || (j == 37)
def Fr (M N : zM) : Prop := (∀ k, pr k = true → N.1 k = M.1 k) ∧ (∀ j, ps j = true → N.1 36 j = M.1 36 j) ∧ (N.1 0 17 = M.1 0 17 ∧ N.1 0 18 = M.1 0 18) ∧ N.2.2 19 = M.2.2 19 ∧ N.2.2 20 = M.2.2 20
theorem Fr.refl (M : zM) : Fr M M := ⟨fun _ _ => rfl, fun _ _ => rfl, ⟨rfl, rfl⟩, rfl, rfl⟩
theorem Fr.trans {A B C : zM} (h : Fr A B) (g : Fr B C) : Fr A C := ⟨fun k q => (g.1 k q).trans (h.1 k q), fun j q => (g.2.1 j q).trans (h.2.1 j q), ⟨g.2.2.1.1.trans h.2.2.1.1, g.2.2.1.2.trans h.2.2.1.2⟩, g.2.2.2.1.trans h.2.2.2.1, g.2.2.2.2.trans h.2.2.2.2⟩
theorem Fr.SI (M : zM) (k j : Nat) (x : Int32) (h1 : pr k = false) (h2 : k = 36 → ps j = false) (h3 : k = 0 → j ≠ 17 ∧ j ≠ 18) : Fr M (zSI M k j x) := by
  refine ⟨fun a ha => zSI_other M j x (fun z => by rw [z, h1] at ha; cases ha), fun b hb => ?_, ⟨?_, ?_⟩, rfl, rfl⟩
  · rw [gSI]
    by_cases hk : 36 = k
    · subst hk
      have := h2 rfl
      rw [if_neg (fun z => by rw [z.2, this] at hb; cases hb)]
    · rw [if_neg (fun z => hk z.1)]
  · rw [gSI]
    by_cases hk : 0 = k
    · subst hk
      rw [if_neg (fun z => (h3 rfl).1 z.2.symm)]
    · rw [if_neg (fun z => hk z.1)]
  · rw [gSI]
    by_cases hk : 0 = k
    · subst hk
      rw [if_neg (fun z => (h3 rfl).2 z.2.symm)]
    · rw [if_neg (fun z => hk z.1)]
theorem Fr.SA (M : zM) (k : Nat) (f : Nat → Int32) (h1 : pr k = false) (h2 : k ≠ 36) (h3 : k ≠ 0) : Fr M (zSA M k f) := by
  refine ⟨fun a ha => ?_, fun b hb => ?_, ⟨?_, ?_⟩, rfl, rfl⟩
  · rw [gSA, if_neg (fun z => by rw [z, h1] at ha; cases ha)]
  · rw [gSA, if_neg (fun z => h2 z.symm)]
  · rw [gSA, if_neg (fun z => h3 z.symm)]
  · rw [gSA, if_neg (fun z => h3 z.symm)]
theorem Fr.SJ (M : zM) (k j : Nat) (x : Int64) : Fr M (zSJ M k j x) := ⟨fun _ _ => rfl, fun _ _ => rfl, ⟨rfl, rfl⟩, rfl, rfl⟩
theorem Fr.SD (M : zM) (j : Nat) (x : Option Nat) (h : j ≠ 19 ∧ j ≠ 20) : Fr M (zSD M j x) := ⟨fun _ _ => rfl, fun _ _ => rfl, ⟨rfl, rfl⟩, by rw [gSD, if_neg (Ne.symm h.1)], by rw [gSD, if_neg (Ne.symm h.2)]⟩
theorem RW.fr {M N : zM} {n w a o : Nat} (h : RW M n w a o) (hw : N.1 w = M.1 w) (h1 : N.1 (w + 1) = M.1 (w + 1)) (h2 : N.1 (w + 2) = M.1 (w + 2)) (h3 : N.1 (w + 3) = M.1 (w + 3)) (h4 : N.1 (w + 4) = M.1 (w + 4)) (ha : N.1 a = M.1 a) : RW N n w a o := by
  unfold RW
  rw [hw, h1, h2, h3, h4, ha]
  exact h
theorem prW {k : Nat} (h : 70 ≤ k) (h2 : k ≤ 144) : pr k = true := by
  unfold pr
  have a1 : (70 ≤ k && k ≤ 144) = true := by simp [h, h2]
  rw [a1]
  simp
theorem RS.fr {M N : zM} {n nd : Nat} (f : Fr M N) (h : RS M n nd) : RS N n nd := by
  unfold RS
  rw [f.1 5 rfl, f.1 6 rfl, f.1 7 rfl, f.1 8 rfl, f.1 38 rfl, f.1 39 rfl, f.1 40 rfl, f.2.1 1 rfl, f.2.1 2 rfl]
  exact h
theorem RX.fr {M N : zM} (f : Fr M N) (h : RX M) : RX N := by
  unfold RX
  rw [f.1 1 rfl, f.1 2 rfl, f.1 41 rfl, f.2.1 9 rfl]
  exact h
theorem RC.fr {M N : zM} (f : Fr M N) (h : RC M) : RC N := by
  unfold RC
  rw [f.2.2.1.1, f.2.2.1.2, f.2.1 3 rfl, f.2.1 4 rfl, f.2.2.2.1, f.2.2.2.2]
  exact h
theorem RH.fr {M N : zM} (f : Fr M N) (h : RH M) : RH N := by
  unfold RH
  rw [f.1 34 rfl, f.1 52 rfl, f.2.1 31 rfl, f.2.1 32 rfl]
  exact h
theorem RW60.fr {M N : zM} {n : Nat} (f : Fr M N) (h : RW M n 60 37 0) : RW N n 60 37 0 := h.fr (f.1 60 rfl) (f.1 61 rfl) (f.1 62 rfl) (f.1 63 rfl) (f.1 64 rfl) (f.1 37 rfl)
theorem RP.fr {M N : zM} {n : Nat} (f : Fr M N) (h : RP M n) : RP N n := by
  obtain ⟨u, x, h1, h2, h3, h4, h5, h6⟩ := h
  refine ⟨u, x, h1, h2, by rw [f.1 9 rfl]; exact h3, by rw [f.1 9 rfl]; exact h4, by rw [f.2.1 25 rfl]; exact h5, fun i hi => ?_⟩
  have hm : (x + 13 - u + i) % 13 < 13 := Nat.mod_lt _ (by omega)
  exact (h6 i hi).fr (f.1 _ (prW (by omega) (by omega))) (f.1 _ (prW (by omega) (by omega))) (f.1 _ (prW (by omega) (by omega))) (f.1 _ (prW (by omega) (by omega))) (f.1 _ (prW (by omega) (by omega))) (f.1 47 rfl)
theorem RK.fr {M N : zM} {n m : Nat} (f : Fr M N) (h : RK M n m) : RK N n m := by
  obtain ⟨c, h1, h2, h3⟩ := h
  refine ⟨c, h1, by rw [f.2.1 37 rfl]; exact h2, fun i hi => ?_⟩
  rw [f.1 12 rfl, f.1 57 rfl, f.1 58 rfl, f.2.1 37 rfl]
  obtain ⟨a1, a2, a3, a4, a5⟩ := h3 i hi
  exact ⟨a1, a2, a3, a4, fun z => (a5 z).fr (f.1 _ (prW (by omega) (by omega))) (f.1 _ (prW (by omega) (by omega))) (f.1 _ (prW (by omega) (by omega))) (f.1 _ (prW (by omega) (by omega))) (f.1 _ (prW (by omega) (by omega))) (f.1 56 rfl)⟩
theorem RK.up {M : zM} {n m : Nat} (h : RK M n m) : RK M n (m + 1) := by
  obtain ⟨c, h1, h2⟩ := h
  exact ⟨c, by omega, h2⟩
/-! what the relation gives of the whereabouts -/
theorem m1_neg : (-1 : Int32) < 0 := by decide
theorem nI_nneg {q : Nat} (h : q < 2 ^ 31) : ¬ nI q < 0 := nI_pos h
theorem nI_ne_m1 {q : Nat} (h : q < 2 ^ 31) : ¬ (-1 : Int32) = nI q := fun z => by
  have := nI_pos h
  rw [← z] at this
  exact this m1_neg
theorem RW_held {M : zM} {n w a o q : Nat} (h : RW M n w a o) (h8 : n ≤ 8) (hq : q ≤ 6) : bsA (fun t => decide (M.1 (w + 1) t = nI q)) 8 = bsA (fun t => decide (M.1 a (o + t) = 0 ∧ M.1 a (o + (8 + t)) = nI q)) n := by
  obtain ⟨h1, h2, -⟩ := h
  have e8 := bsA_more (p := fun t => decide (M.1 (w + 1) t = nI q)) (n := n) (k := 8 - n) (fun t a1 a2 => by
    rw [(h2 t a1 (by omega)).1]
    exact decide_eq_false (nI_ne_m1 (by omega)))
  rw [show n + (8 - n) = 8 by omega] at e8
  rw [e8]
  refine bsA_congr (fun t ht => ?_)
  rcases h1 t ht with ⟨b1, -, b3, -⟩ | ⟨b1, -, b3, -⟩ | ⟨b1, -, -, b3, -⟩
  · rw [b3, b1]; simp
  · rw [b3, b1, decide_eq_false (nI_ne_m1 (by omega))]; simp
  · rw [b3, b1, decide_eq_false (nI_ne_m1 (by omega))]; simp
theorem RW_lost {M : zM} {n w a o : Nat} (h : RW M n w a o) (h8 : n ≤ 8) : bsA (fun t => !decide (M.1 (w + 2) t < 0)) 8 = bsA (fun t => decide (M.1 a (o + t) = 1)) n := by
  obtain ⟨h1, h2, -⟩ := h
  rw [show 8 = n + (8 - n) by omega, bsA_more (n := n) (k := 8 - n) (fun t a1 a2 => by
    rw [(h2 t a1 (by omega)).2.1]; rfl)]
  refine bsA_congr (fun t ht => ?_)
  rcases h1 t ht with ⟨b1, -, -, b3, -⟩ | ⟨b1, ⟨q, hq, e⟩, -, b3, -⟩ | ⟨b1, -, -, -, b3, -⟩
  · rw [b3, b1]; rfl
  · rw [b3, b1, e, decide_eq_false (nI_nneg (by omega))]; rfl
  · rw [b3, b1]; rfl
theorem RW_in {M : zM} {n w a o : Nat} (h : RW M n w a o) (h8 : n ≤ 8) : bsA (fun t => !decide (M.1 (w + 3) t < 0)) 8 = bsA (fun t => decide (M.1 a (o + t) = 2)) n := by
  obtain ⟨h1, h2, -⟩ := h
  rw [show 8 = n + (8 - n) by omega, bsA_more (n := n) (k := 8 - n) (fun t a1 a2 => by
    rw [(h2 t a1 (by omega)).2.2.1]; rfl)]
  refine bsA_congr (fun t ht => ?_)
  rcases h1 t ht with ⟨b1, -, -, -, b3, -⟩ | ⟨b1, -, -, -, b3, -⟩ | ⟨b1, -, ⟨e, he, e2⟩, -, -, b3, -⟩
  · rw [b3, b1]; rfl
  · rw [b3, b1]; rfl
  · rw [b3, b1, e2, decide_eq_false (nI_nneg (by omega))]; rfl
