/-! THE ROW, and sums over things and deeds -/
theorem pX3_begin (M : zM) : fX3_begin M = zSI M 3 1 0 := rfl
theorem pX3_tell {M : zM} {k : Nat} (v : Int64) (h : M.1 3 1 = nI k) (hk : k < 16) : fX3_tell v M = some (zSI (zSJ M 4 k v) 3 1 (nI (k + 1))) := by
  simp only [fX3_tell, h, if_neg (show ¬ 16 ≤ nI k from leF (a := 16) hk (by omega)), if_pos (zinT hk (by omega)), nI_clamp (show k < 2 ^ 31 by omega), zlet, gSJ1, h, nI_1]
theorem pX12_tell {M : zM} {k : Nat} (v : Int64) (h : M.1 36 11 = nI k) (hk : k < 16) : fX12_tell v M = some (zSI (zSJ M 42 k v) 36 11 (nI (k + 1))) := by
  simp only [fX12_tell, h, if_pos (zinT hk (by omega)), nI_clamp (show k < 2 ^ 31 by omega), zlet, gSJ1, h, nI_1]
/-! frames: what a question of the class, of the reference, leaves as it was -/
def FrC (M N : zM) : Prop := (∀ k, 36 ≤ k → k ≤ 59 → N.1 k = M.1 k) ∧ (∀ k, k ≠ 4 → N.2.1 k = M.2.1 k) ∧ N.2.2 = M.2.2 ∧ (∀ k, pr k = true → N.1 k = M.1 k) ∧ N.1 0 17 = M.1 0 17 ∧ N.1 0 18 = M.1 0 18
def FrM (M N : zM) : Prop := (∀ k, k < 36 ∨ 59 ≤ k → N.1 k = M.1 k) ∧ N.2.1 4 = M.2.1 4 ∧ (∀ k, pr k = true → N.1 k = M.1 k) ∧ (∀ j, ps j = true → N.1 36 j = M.1 36 j) ∧ N.2.2 19 = M.2.2 19 ∧ N.2.2 20 = M.2.2 20
theorem FrC.refl (M : zM) : FrC M M := ⟨fun _ _ _ => rfl, fun _ _ => rfl, rfl, fun _ _ => rfl, rfl, rfl⟩
theorem FrM.refl (M : zM) : FrM M M := ⟨fun _ _ => rfl, rfl, fun _ _ => rfl, fun _ _ => rfl, rfl, rfl⟩
theorem FrC.trans {A B C : zM} (h : FrC A B) (g : FrC B C) : FrC A C := ⟨fun k a b => (g.1 k a b).trans (h.1 k a b), fun k a => (g.2.1 k a).trans (h.2.1 k a), g.2.2.1.trans h.2.2.1, fun k a => (g.2.2.2.1 k a).trans (h.2.2.2.1 k a), g.2.2.2.2.1.trans h.2.2.2.2.1, g.2.2.2.2.2.trans h.2.2.2.2.2⟩
theorem FrM.trans {A B C : zM} (h : FrM A B) (g : FrM B C) : FrM A C := ⟨fun k a => (g.1 k a).trans (h.1 k a), g.2.1.trans h.2.1, fun k a => (g.2.2.1 k a).trans (h.2.2.1 k a), fun k a => (g.2.2.2.1 k a).trans (h.2.2.2.1 k a), g.2.2.2.2.1.trans h.2.2.2.2.1, g.2.2.2.2.2.trans h.2.2.2.2.2⟩
theorem FrC.SI (M : zM) (k j : Nat) (x : Int32) (h1 : pr k = false) (h2 : k < 36 ∨ 59 < k) (h3 : k = 0 → j ≠ 17 ∧ j ≠ 18) : FrC M (zSI M k j x) := by
  refine ⟨fun a ha hb => zSI_other M j x (by omega), fun _ _ => rfl, rfl, fun a ha => zSI_other M j x (fun z => by rw [z, h1] at ha; cases ha), ?_, ?_⟩
  · rw [gSI]
    by_cases hk : 0 = k
    · subst hk
      rw [if_neg (fun z => (h3 rfl).1 z.2.symm)]
    · rw [if_neg (fun z => hk z.1)]
  · rw [gSI]
    by_cases hk : 0 = k
    · subst hk
      rw [if_neg (fun z => (h3 rfl).2 z.2.symm)]
    · rw [if_neg (fun z => hk z.1)]
theorem FrC.SA (M : zM) (k : Nat) (f : Nat → Int32) (h1 : pr k = false) (h2 : k < 36 ∨ 59 < k) (h3 : k ≠ 0) : FrC M (zSA M k f) := by
  refine ⟨fun a ha hb => ?_, fun _ _ => rfl, rfl, fun a ha => ?_, ?_, ?_⟩
  · rw [gSA, if_neg (by omega)]
  · rw [gSA, if_neg (fun z => by rw [z, h1] at ha; cases ha)]
  · rw [gSA, if_neg (fun z => h3 z.symm)]
  · rw [gSA, if_neg (fun z => h3 z.symm)]
theorem FrC.SJ (M : zM) (j : Nat) (x : Int64) : FrC M (zSJ M 4 j x) := ⟨fun _ _ _ => rfl, fun k hk => zSJ_other M j x hk, rfl, fun _ _ => rfl, rfl, rfl⟩
theorem FrM.SI (M : zM) (k j : Nat) (x : Int32) (h1 : pr k = false) (h2 : 36 ≤ k ∧ k < 59) (h3 : k = 36 → ps j = false) : FrM M (zSI M k j x) := by
  refine ⟨fun a ha => zSI_other M j x (by omega), rfl, fun a ha => zSI_other M j x (fun z => by rw [z, h1] at ha; cases ha), fun b hb => ?_, rfl, rfl⟩
  rw [gSI]
  by_cases hk : 36 = k
  · subst hk
    have := h3 rfl
    rw [if_neg (fun z => by rw [z.2, this] at hb; cases hb)]
  · rw [if_neg (fun z => hk z.1)]
theorem FrM.SA (M : zM) (k : Nat) (f : Nat → Int32) (h1 : pr k = false) (h2 : 36 < k ∧ k < 59) : FrM M (zSA M k f) := by
  refine ⟨fun a ha => ?_, rfl, fun a ha => ?_, fun b hb => ?_, rfl, rfl⟩
  · rw [gSA, if_neg (by omega)]
  · rw [gSA, if_neg (fun z => by rw [z, h1] at ha; cases ha)]
  · rw [gSA, if_neg (by omega)]
theorem FrM.SJ (M : zM) (k j : Nat) (x : Int64) (h : k ≠ 4) : FrM M (zSJ M k j x) := ⟨fun _ _ => rfl, zSJ_other M j x (Ne.symm h), fun _ _ => rfl, fun _ _ => rfl, rfl, rfl⟩
theorem FrM.SD (M : zM) (j : Nat) (x : Option Nat) (h : j ≠ 19 ∧ j ≠ 20) : FrM M (zSD M j x) := ⟨fun _ _ => rfl, rfl, fun _ _ => rfl, fun _ _ => rfl, by rw [gSD, if_neg (Ne.symm h.1)], by rw [gSD, if_neg (Ne.symm h.2)]⟩
/-- both asked one behind the other -/
theorem Fr.both {M N1 N2 : zM} (h1 : FrC M N1) (h2 : FrM N1 N2) : Fr M N2 := by
  refine ⟨fun k hk => (h2.2.2.1 k hk).trans (h1.2.2.2.1 k hk), fun j hj => (h2.2.2.2.1 j hj).trans (by rw [h1.1 36 (by omega) (by omega)]), ⟨?_, ?_⟩, ?_, ?_⟩
  · rw [h2.1 0 (by omega)]; exact h1.2.2.2.2.1
  · rw [h2.1 0 (by omega)]; exact h1.2.2.2.2.2
  · rw [h2.2.2.2.2.1, h1.2.2.1]
  · rw [h2.2.2.2.2.2, h1.2.2.1]
theorem RO.both {N1 N2 : zM} {l : List Int64} (hl : l.length ≤ 16) (h2 : FrM N1 N2) (c : CR N1 l) (m : MR N2 l) : RO N2 :=
  ⟨l, hl, ⟨by rw [h2.1 3 (by omega)]; exact c.1, fun j v hj => by rw [h2.2.1]; exact c.2 j v hj⟩, m⟩
/-- the row as it was: refused calls -/
theorem CR.fr {M N : zM} {l : List Int64} (h : CR M l) (h1 : N.1 3 = M.1 3) (h2 : N.2.1 4 = M.2.1 4) : CR N l := ⟨by rw [h1]; exact h.1, fun j v hj => by rw [h2]; exact h.2 j v hj⟩
theorem MR.fr {M N : zM} {l : List Int64} (h : MR M l) (h1 : N.1 36 11 = M.1 36 11) (h2 : N.2.1 42 = M.2.1 42) : MR N l := ⟨by rw [h1]; exact h.1, fun j v hj => by rw [h2]; exact h.2 j v hj⟩
/-! a run of calls, goal first -/
theorem wpO_ret {α : Type} {x : α} {K : α → Prop} (h : K x) : wpO (some x) K := ⟨x, rfl, h⟩
theorem wpO_lk {α β : Type} {v : α} {f : α → Option β} {K : β → Prop} (h : wpO (f v) K) : wpO (zlet v f) K := h
theorem wpO_ek {α β : Type} {o : Option α} {v : α} {f : α → Option β} {K : β → Prop} (e : o = some v) (h : wpO (f v) K) : wpO (o.bind f) K := by rw [e]; exact h
theorem wpO_bk {α β : Type} {o : Option α} {f : α → Option β} {K : β → Prop} (h : wpO o (fun r => wpO (f r) K)) : wpO (o.bind f) K := by
  obtain ⟨r, e, r2, e2, k⟩ := h
  exact ⟨r2, by rw [e]; exact e2, k⟩
theorem wpO_mono {α : Type} {o : Option α} {K K2 : α → Prop} (h : wpO o K) (k : ∀ r, K r → K2 r) : wpO o K2 := by
  obtain ⟨r, e, z⟩ := h
  exact ⟨r, e, k r z⟩
theorem wpO_tk {α : Type} {c : Prop} [Decidable c] {a b : Option α} {K : α → Prop} (hc : c) (h : wpO a K) : wpO (if c then a else b) K := by rw [if_pos hc]; exact h
theorem wpO_fk {α : Type} {c : Prop} [Decidable c] {a b : Option α} {K : α → Prop} (hc : ¬ c) (h : wpO b K) : wpO (if c then a else b) K := by rw [if_neg hc]; exact h
theorem wpO_pk {α β γ : Type} {a : α} {b : β} {f : α → β → Option γ} {K : γ → Prop} (h : wpO (f a b) K) : wpO (zp (a, b) f) K := h
theorem snoc_get {l : List Int64} {v w : Int64} {j : Nat} (h : (l ++ [v])[j]? = some w) : (j < l.length ∧ l[j]? = some w) ∨ (j = l.length ∧ w = v) := by
  rcases Nat.lt_or_ge j l.length with q | q
  · rw [List.getElem?_append_left q] at h
    exact Or.inl ⟨q, h⟩
  · rw [List.getElem?_append_right q] at h
    have : j - l.length < 1 := (List.getElem?_eq_some_iff.mp h).1
    have e : j = l.length := by omega
    subst e
    rw [Nat.sub_self] at h
    cases h
    exact Or.inr ⟨rfl, rfl⟩
theorem wC_begin {α : Type} {M : zM} {f : zM → Option α} {K : α → Prop} (k : ∀ N, FrC M N → CR N [] → wpO (f N) K) : wpO (zlet (fX3_begin M) f) K :=
  k _ (FrC.SI M 3 1 0 rfl (by omega) (fun z => by cases z)) ⟨by rw [pX3_begin, gSI]; rfl, fun j v h => by simp at h⟩
theorem wC_tell {α : Type} {M : zM} {l : List Int64} {v : Int64} {f : zM → Option α} {K : α → Prop} (hR : CR M l) (hl : l.length < 16) (k : ∀ N, FrC M N → CR N (l ++ [v]) → wpO (f N) K) : wpO ((fX3_tell v M).bind f) K := by
  refine wpO_ek (pX3_tell v hR.1 hl) (k _ ((FrC.SJ M _ v).trans (FrC.SI _ 3 1 _ rfl (by omega) (fun z => by cases z))) ⟨?_, ?_⟩)
  · rw [gSI, if_pos ⟨rfl, rfl⟩, List.length_append]; rfl
  · intro j w hj
    show (zSJ M 4 l.length v).2.1 4 j = w
    rw [gSJ]
    rcases snoc_get hj with ⟨h1, h2⟩ | ⟨rfl, rfl⟩
    · rw [if_neg (by omega)]; exact hR.2 j w h2
    · rw [if_pos ⟨rfl, rfl⟩]
theorem wM_thrown {α : Type} {M : zM} {f : zM → Option α} {K : α → Prop} (k : ∀ N, FrM M N → N.1 36 11 = M.1 36 11 → N.2.1 = M.2.1 → N.1 36 12 = 0 → wpO (f N) K) : wpO (zlet (zSI M 36 12 0) f) K :=
  k _ (FrM.SI M 36 12 0 rfl (by omega) (fun _ => rfl)) (by rw [gSI]; simp) rfl (by rw [gSI]; simp)
theorem wM_begin {α : Type} {M : zM} {f : zM → Option α} {K : α → Prop} (k : ∀ N, FrM M N → MR N [] → wpO (f N) K) : wpO (zlet (zSI M 36 11 0) f) K :=
  k _ (FrM.SI M 36 11 0 rfl (by omega) (fun _ => rfl)) ⟨by rw [gSI]; rfl, fun j v h => by simp at h⟩
theorem wM_tell {α : Type} {M : zM} {l : List Int64} {v : Int64} {f : zM → Option α} {K : α → Prop} (hR : MR M l) (hl : l.length < 16) (k : ∀ N, FrM M N → MR N (l ++ [v]) → wpO (f N) K) : wpO ((fX12_tell v M).bind f) K := by
  refine wpO_ek (pX12_tell v hR.1 hl) (k _ ((FrM.SJ M 42 _ v (by decide)).trans (FrM.SI _ 36 11 _ rfl (by omega) (fun _ => rfl))) ⟨?_, ?_⟩)
  · rw [gSI, if_pos ⟨rfl, rfl⟩, List.length_append]; rfl
  · intro j w hj
    show (zSJ M 42 l.length v).2.1 42 j = w
    rw [gSJ]
    rcases snoc_get hj with ⟨h1, h2⟩ | ⟨rfl, rfl⟩
    · rw [if_neg (by omega)]; exact hR.2 j w h2
    · rw [if_pos ⟨rfl, rfl⟩]
def orA (f : Nat → Int32) : Nat → Int32
  | 0 => 0
  | n + 1 => orA f n ||| f n
def smA (f : Nat → Int32) : Nat → Int32
  | 0 => 0
  | n + 1 => smA f n + f n
theorem orA_congr {f g : Nat → Int32} : ∀ {n : Nat}, (∀ t, t < n → f t = g t) → orA f n = orA g n
  | 0, _ => rfl
  | n + 1, h => by
    show orA f n ||| f n = orA g n ||| g n
    rw [orA_congr (fun t ht => h t (by omega)), h n (by omega)]
theorem smA_congr {f g : Nat → Int32} : ∀ {n : Nat}, (∀ t, t < n → f t = g t) → smA f n = smA g n
  | 0, _ => rfl
  | n + 1, h => by
    show smA f n + f n = smA g n + g n
    rw [smA_congr (fun t ht => h t (by omega)), h n (by omega)]
theorem iadd_0 (x : Int32) : x + 0 = x := by
  apply Int32.toBitVec_inj.mp
  simp
theorem pX7_allNeeds {M : zM} {nd : Nat} (hd : M.1 5 4 = nI nd) (hn : nd ≤ 6) : fX7_allNeeds M = some (orA (M.1 8) nd) := by
  unfold fX7_allNeeds
  rw [show fX7_allNeeds_L4 M 4000 0 0 = some (orA (M.1 8) nd) from zfor (fun n (s : Int32 × Int32) => fX7_allNeeds_L4 M n s.1 s.2) (fun i => (orA (M.1 8) i, nI i)) nd _
    (fun n i hi => by
      have h1 : i < 2 ^ 31 := by omega
      simp only [fX7_allNeeds_L4, hd, if_neg (leF hi (by omega)), if_pos (zinT (show i < 6 by omega) h1), nI_clamp h1, nI_1, zlet, orA])
    (fun n => by simp only [fX7_allNeeds_L4, hd, if_pos (leT (Nat.le_refl nd) (by omega))])
    nd 0 4000 (by omega) (by omega)]
  rfl
theorem pX12_allNeeds {M : zM} {nd : Nat} (hd : M.1 36 2 = nI nd) (hn : nd ≤ 6) : fX12_allNeeds M = some (orA (M.1 40) nd) := by
  unfold fX12_allNeeds
  rw [show fX12_allNeeds_L4 M 4000 0 0 = some (orA (M.1 40) nd) from zfor (fun n (s : Int32 × Int32) => fX12_allNeeds_L4 M n s.1 s.2) (fun i => (orA (M.1 40) i, nI i)) nd _
    (fun n i hi => by
      have h1 : i < 2 ^ 31 := by omega
      simp only [fX12_allNeeds_L4, hd, if_neg (leF hi (by omega)), if_pos (zinT (show i < 6 by omega) h1), nI_clamp h1, nI_1, zlet, orA])
    (fun n => by simp only [fX12_allNeeds_L4, hd, if_pos (leT (Nat.le_refl nd) (by omega))])
    nd 0 4000 (by omega) (by omega)]
  rfl
theorem isOf_has (x y : Int32) : fX11_isOf x y = if hasB x y = true then 1 else 0 := by
  unfold fX11_isOf hasB
  split <;> simp_all
theorem has_has (x y : Int32) : fX12_has x y = if hasB x y = true then 1 else 0 := by
  unfold fX12_has hasB
  split <;> simp_all
theorem isOf_0 (x y : Int32) : fX11_isOf x y = 0 ↔ hasB x y = false := by
  rw [isOf_has]
  cases hasB x y <;> simp
theorem has_0 (x y : Int32) : fX12_has x y = 0 ↔ hasB x y = false := by
  rw [has_has]
  cases hasB x y <;> simp
theorem pX7_worthOf {x : Int32} {M : zM} {n : Nat} (hn : M.1 5 3 = nI n) (h8 : n ≤ 8) : fX7_worthOf x M = some (smA (fun t => if hasB x (nI t) = true then M.1 7 t else 0) n) := by
  unfold fX7_worthOf
  rw [show fX7_worthOf_L4 x M 4000 0 0 = some (smA (fun t => if hasB x (nI t) = true then M.1 7 t else 0) n) from zfor (fun k (s : Int32 × Int32) => fX7_worthOf_L4 x M k s.1 s.2) (fun i => (smA (fun t => if hasB x (nI t) = true then M.1 7 t else 0) i, nI i)) n _
    (fun k i hi => by
      have h1 : i < 2 ^ 31 := by omega
      simp only [fX7_worthOf_L4, hn, if_neg (leF hi (by omega)), if_pos (zinT (show i < 8 by omega) h1), nI_clamp h1, nI_1, zlet, smA, isOf_0]
      cases hasB x (nI i) <;> simp [iadd_0])
    (fun k => by simp only [fX7_worthOf_L4, hn, if_pos (leT (Nat.le_refl n) (by omega))])
    n 0 4000 (by omega) (by omega)]
  rfl
theorem pX12_worthOf {x : Int32} {M : zM} {n : Nat} (hn : M.1 36 1 = nI n) (h8 : n ≤ 8) : fX12_worthOf x M = some (smA (fun t => if hasB x (nI t) = true then M.1 39 t else 0) n) := by
  unfold fX12_worthOf
  rw [show fX12_worthOf_L4 x M 4000 0 0 = some (smA (fun t => if hasB x (nI t) = true then M.1 39 t else 0) n) from zfor (fun k (s : Int32 × Int32) => fX12_worthOf_L4 x M k s.1 s.2) (fun i => (smA (fun t => if hasB x (nI t) = true then M.1 39 t else 0) i, nI i)) n _
    (fun k i hi => by
      have h1 : i < 2 ^ 31 := by omega
      simp only [fX12_worthOf_L4, hn, if_neg (leF hi (by omega)), if_pos (zinT (show i < 8 by omega) h1), nI_clamp h1, nI_1, zlet, smA, has_0]
      cases hasB x (nI i) <;> simp [iadd_0])
    (fun k => by simp only [fX12_worthOf_L4, hn, if_pos (leT (Nat.le_refl n) (by omega))])
    n 0 4000 (by omega) (by omega)]
  rfl
theorem pX12_those {a : Nat} {how : Int32} {M : zM} {n : Nat} (hn : M.1 36 1 = nI n) (h8 : n ≤ 8) (ha : zSH a = .inr (0, 26)) : fX12_those a how M = some (bsA (fun t => decide (M.1 a t = how)) n) := by
  unfold fX12_those
  rw [show fX12_those_L5 a how M 4000 0 0 = some (bsA (fun t => decide (M.1 a t = how)) n) from zfor (fun k (s : Int32 × Int32) => fX12_those_L5 a how M k s.1 s.2) (fun i => (bsA (fun t => decide (M.1 a t = how)) i, nI i)) n _
    (fun k i hi => by
      have h1 : i < 2 ^ 31 := by omega
      simp only [fX12_those_L5, hn, if_neg (leF hi (by omega)), zLen_of ha, ha, if_true, if_pos (zinT (show i < 26 by omega) h1), nI_clamp h1, nI_1, zlet, bsA, decide_eq_true_eq]
      split <;> simp only [ior_0])
    (fun k => by simp only [fX12_those_L5, hn, if_pos (leT (Nat.le_refl n) (by omega))])
    n 0 4000 (by omega) (by omega)]
  rfl
/-- the reference's lasting rows in N are those of B -/
def E12 (B N : zM) : Prop := (∀ k, 36 < k → k < 59 → pr k = true → N.1 k = B.1 k) ∧ (∀ j, ps j = true → N.1 36 j = B.1 36 j) ∧ N.2.2 19 = B.2.2 19 ∧ N.2.2 20 = B.2.2 20
theorem E12.ofC {B N : zM} (f : FrC B N) : E12 B N := ⟨fun k h1 h2 _ => f.1 k (by omega) (by omega), fun j _ => by rw [f.1 36 (by omega) (by omega)], by rw [f.2.2.1], by rw [f.2.2.1]⟩
theorem E12.fr {B M N : zM} (e : E12 B M) (f : FrM M N) : E12 B N := ⟨fun k h1 h2 h3 => (f.2.2.1 k h3).trans (e.1 k h1 h2 h3), fun j hj => (f.2.2.2.1 j hj).trans (e.2.1 j hj), f.2.2.2.2.1.trans e.2.2.1, f.2.2.2.2.2.trans e.2.2.2⟩
/-- both sides of a question -/
def OpQ (f g : zM → Option (Int32 × zM)) (M : zM) : Prop := ∃ r M1 M2, f M = some (r, M1) ∧ g M1 = some (r, M2) ∧ Fr M M2 ∧ RO M2
theorem opQ {f g : zM → Option (Int32 × zM)} {M : zM} {r : Int32} {l : List Int64} (hl : l.length ≤ 16) (hc : wpO (f M) (fun q => q.1 = r ∧ FrC M q.2 ∧ CR q.2 l)) (hm : ∀ N, FrC M N → wpO (g N) (fun q => q.1 = r ∧ FrM N q.2 ∧ MR q.2 l)) : OpQ f g M := by
  obtain ⟨⟨r1, N1⟩, e1, rfl, f1, c1⟩ := hc
  obtain ⟨⟨r2, N2⟩, e2, h2, f2, m2⟩ := hm N1 f1
  dsimp only at h2 f2 m2 e2 f1 c1
  subst h2
  exact ⟨r2, N1, N2, e1, e2, Fr.both f1 f2, RO.both hl f2 c1 m2⟩
/-- refused, or without a row: the row stays -/
theorem opR {f g : zM → Option (Int32 × zM)} {M : zM} {r : Int32} (hO : RO M) (hc : wpO (f M) (fun q => q.1 = r ∧ FrC M q.2 ∧ q.2.1 3 = M.1 3 ∧ q.2.2.1 4 = M.2.1 4)) (hm : ∀ N, FrC M N → wpO (g N) (fun q => q.1 = r ∧ FrM N q.2 ∧ q.2.1 36 11 = N.1 36 11 ∧ q.2.2.1 42 = N.2.1 42)) : OpQ f g M := by
  obtain ⟨l, hl, c, m⟩ := hO
  refine opQ (r := r) hl (wpO_mono hc (fun q h => ⟨h.1, h.2.1, c.fr h.2.2.1 h.2.2.2⟩)) (fun N fN => wpO_mono (hm N fN) (fun q h => ⟨h.1, h.2.1, ?_⟩))
  exact m.fr (h.2.2.1.trans (by rw [fN.1 36 (by omega) (by omega)])) (h.2.2.2.trans (fN.2.1 42 (by decide)))
theorem wM_thr {M : zM} {r : Int32} {f : zM → Option (Int32 × zM)} {K : Int32 × zM → Prop} (h : f (zSI M 36 12 0) = some (r, zSI M 36 12 0)) (k : ∀ N, FrM M N → N.1 36 11 = M.1 36 11 → N.2.1 = M.2.1 → K (r, N)) : wpO (zlet (zSI M 36 12 0) f) K :=
  ⟨_, h, k _ (FrM.SI M 36 12 0 rfl (by omega) (fun _ => rfl)) (by rw [gSI]; simp) rfl⟩
/-! the pictures, in the reference's own rows -/
def sHad (M : zM) (n : Nat) (who : Int32) : Int32 := bsA (fun t => decide (M.1 37 t = 0 ∧ M.1 37 (8 + t) = who)) n
def sHow (M : zM) (n : Nat) (how : Int32) : Int32 := bsA (fun t => decide (M.1 37 t = how)) n
def sCan (M : zM) (nd : Nat) (x : Int32) : Int32 := bsA (fun t => decide (M.1 40 t &&& (x ^^^ (-1)) = 0)) nd
def sNeeds (M : zM) (nd : Nat) : Int32 := orA (M.1 40) nd
def sWorth (M : zM) (n : Nat) (x : Int32) : Int32 := smA (fun t => if hasB x (nI t) = true then M.1 39 t else 0) n
section CF
variable {M N : zM} {n nd : Nat}
theorem cHeld {q : Nat} (hS : RS M n nd) (hW : RW M n 60 37 0) (f : FrC M N) (hq : q ≤ 6) : fX10_heldBy 60 (nI q) N = some (sHad M n (nI q)) := by
  have e := RW_held hW hS.1.1 hq
  simp only [Nat.zero_add] at e
  rw [pX10_heldBy rfl, f.2.2.2.1 61 rfl]
  exact congrArg some e
theorem cLost (hS : RS M n nd) (hW : RW M n 60 37 0) (f : FrC M N) : fX10_lost 60 N = some (sHow M n 1) := by
  have e := RW_lost hW hS.1.1
  simp only [Nat.zero_add] at e
  rw [pX10_lost rfl, f.2.2.2.1 62 rfl]
  exact congrArg some e
theorem cInside (hS : RS M n nd) (hW : RW M n 60 37 0) (f : FrC M N) : fX10_inside 60 N = some (sHow M n 2) := by
  have e := RW_in hW hS.1.1
  simp only [Nat.zero_add] at e
  rw [pX10_inside rfl, f.2.2.2.1 63 rfl]
  exact congrArg some e
theorem cDo (hS : RS M n nd) (f : FrC M N) (x : Int32) : fX7_doableWith x N = some (sCan M nd x) := by
  rw [pX7_doableWith (nd := nd) (by rw [f.2.2.2.1 5 rfl]; exact hS.2.1.2.2.1) hS.1.2, f.2.2.2.1 8 rfl]
  exact congrArg some (bsA_congr (fun t ht => by rw [(hS.2.2.2.2 t ht).1]))
theorem cNeeds (hS : RS M n nd) (f : FrC M N) : fX7_allNeeds N = some (sNeeds M nd) := by
  rw [pX7_allNeeds (nd := nd) (by rw [f.2.2.2.1 5 rfl]; exact hS.2.1.2.2.1) hS.1.2, f.2.2.2.1 8 rfl]
  exact congrArg some (orA_congr (fun t ht => (hS.2.2.2.2 t ht).1))
theorem cWorth (hS : RS M n nd) (f : FrC M N) (x : Int32) : fX7_worthOf x N = some (sWorth M n x) := by
  rw [pX7_worthOf (n := n) (by rw [f.2.2.2.1 5 rfl]; exact hS.2.1.1) hS.1.1, f.2.2.2.1 7 rfl]
  exact congrArg some (smA_congr (fun t ht => by rw [(hS.2.2.2.1 t ht).1]))
theorem mHad (hn : M.1 36 1 = nI n) (h8 : n ≤ 8) (f : E12 M N) (who : Int32) : fX12_hadBy 37 who N = some (sHad M n who) := by
  rw [pX12_hadBy (n := n) (by rw [f.2.1 1 rfl]; exact hn) h8 rfl, f.1 37 (by omega) (by omega) rfl]; rfl
theorem mThose (hn : M.1 36 1 = nI n) (h8 : n ≤ 8) (f : E12 M N) (how : Int32) : fX12_those 37 how N = some (sHow M n how) := by
  rw [pX12_those (n := n) (by rw [f.2.1 1 rfl]; exact hn) h8 rfl, f.1 37 (by omega) (by omega) rfl]; rfl
theorem mCan (hd : M.1 36 2 = nI nd) (h6 : nd ≤ 6) (f : E12 M N) (x : Int32) : fX12_canWith x N = some (sCan M nd x) := by
  rw [pX12_canWith (nd := nd) (by rw [f.2.1 2 rfl]; exact hd) h6, f.1 40 (by omega) (by omega) rfl]; rfl
theorem mNeeds (hd : M.1 36 2 = nI nd) (h6 : nd ≤ 6) (f : E12 M N) : fX12_allNeeds N = some (sNeeds M nd) := by
  rw [pX12_allNeeds (nd := nd) (by rw [f.2.1 2 rfl]; exact hd) h6, f.1 40 (by omega) (by omega) rfl]; rfl
theorem mWorth (hn : M.1 36 1 = nI n) (h8 : n ≤ 8) (f : E12 M N) (x : Int32) : fX12_worthOf x N = some (sWorth M n x) := by
  rw [pX12_worthOf (n := n) (by rw [f.2.1 1 rfl]; exact hn) h8, f.1 39 (by omega) (by omega) rfl]; rfl
end CF
/-! can -/
theorem c_can {M : zM} {n nd : Nat} (hS : RS M n nd) (hW : RW M n 60 37 0) : wpO (fX11_can M) (fun q => q.1 = sCan M nd (sHad M n 6) ∧ FrC M q.2 ∧ CR q.2 [(fJ6_bitCount_0f7a4 (sCan M nd (sHad M n 6))).toInt64, (sNeeds M nd &&& (sHad M n 6 ^^^ (-1))).toInt64]) := by
  unfold fX11_can
  refine wpO_ek (cHeld (q := 6) hS hW (FrC.refl M) (by omega)) (wpO_ek (cDo hS (FrC.refl M) _) (wC_begin (fun N1 f1 r1 => wC_tell r1 (Nat.le_of_ble_eq_true rfl) (fun N2 f2 r2 => wpO_ek (cNeeds hS (f1.trans f2)) (wC_tell r2 (Nat.le_of_ble_eq_true rfl) (fun N3 f3 r3 => wpO_ret ⟨rfl, (f1.trans f2).trans f3, r3⟩))))))
theorem m_can {B M : zM} {n nd : Nat} (e : E12 B M) (hS : RS B n nd) : wpO (fX12_can M) (fun q => q.1 = sCan B nd (sHad B n 6) ∧ FrM M q.2 ∧ MR q.2 [(fJ6_bitCount_0f7a4 (sCan B nd (sHad B n 6))).toInt64, (sNeeds B nd &&& (sHad B n 6 ^^^ (-1))).toInt64]) := by
  obtain ⟨⟨h8, h6⟩, ⟨-, hn, -, hd⟩, -⟩ := hS
  unfold fX12_can
  refine wM_thrown (fun N0 f0 _ _ _ => wpO_ek (mHad hn h8 (e.fr f0) 6) (wpO_ek (mCan hd h6 (e.fr f0) _) (wM_begin (fun N1 f1 r1 => wM_tell r1 (Nat.le_of_ble_eq_true rfl) (fun N2 f2 r2 => wpO_ek (mNeeds hd h6 (e.fr ((f0.trans f1).trans f2))) (wpO_ek (mHad hn h8 (e.fr ((f0.trans f1).trans f2)) 6) (wM_tell r2 (Nat.le_of_ble_eq_true rfl) (fun N3 f3 r3 => wpO_ret ⟨rfl, ((f0.trans f1).trans f2).trans f3, r3⟩))))))))
theorem op_can {M : zM} {n nd : Nat} (hS : RS M n nd) (hW : RW M n 60 37 0) : OpQ fX11_can fX12_can M := opQ (Nat.le_of_ble_eq_true rfl) (c_can hS hW) (fun N f => m_can (E12.ofC f) hS)
