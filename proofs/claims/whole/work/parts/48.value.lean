/-! the component works a rule out -/
def FrV (x0 : Nat) (M N : zM) : Prop := (∀ k, k ≠ x0 + 2 → k ≠ x0 + 3 → N.1 k = M.1 k) ∧ N.2 = M.2
theorem FrV.refl (x0 : Nat) (M : zM) : FrV x0 M M := ⟨fun _ _ _ => rfl, rfl⟩
theorem FrV.trans {x0 : Nat} {A B C : zM} (h : FrV x0 A B) (k : FrV x0 B C) : FrV x0 A C := ⟨fun j a b => (k.1 j a b).trans (h.1 j a b), k.2.trans h.2⟩
def PartsAre (M : zM) (x0 : Nat) (l : List Int32) : Prop := l.length ≤ 40 ∧ M.1 x0 3 = nI l.length ∧ ∀ j x, l[j]? = some x → M.1 (x0 + 1) j = x
/-- the stack of values, last first -/
def SK (N : zM) (k : Nat) (st : List Int32) : Prop := ∀ j y, st.reverse[j]? = some y → N.1 k j = y
theorem SK.push {N : zM} {k : Nat} {st : List Int32} (h : SK N k st) (y : Int32) : SK (zSI N k st.length y) k (y :: st) := by
  intro j w hj
  rw [List.reverse_cons] at hj
  rw [gSI]
  rcases snoc32 hj with ⟨h1, h2⟩ | ⟨h1, h2⟩
  · rw [List.length_reverse] at h1
    rw [if_neg (by omega)]
    exact h j w h2
  · rw [List.length_reverse] at h1
    rw [if_pos ⟨rfl, h1⟩, h2]
theorem SK.pop {N : zM} {k : Nat} {st : List Int32} {y : Int32} (h : SK N k (y :: st)) : SK N k st ∧ N.1 k st.length = y := by
  refine ⟨fun j w hj => h j w ?_, h st.length y ?_⟩
  · rw [List.reverse_cons, List.getElem?_append_left (by rcases List.getElem?_eq_some_iff.mp hj with ⟨q, -⟩; exact q)]
    exact hj
  · rw [List.reverse_cons, List.getElem?_append_right (by rw [List.length_reverse]; exact Nat.le_refl _), List.length_reverse, Nat.sub_self]
    rfl
theorem nI_m1 (k : Nat) : nI (k + 1) + (-1) = nI k := by
  rw [← nI_pred k, Int32.sub_eq_add_neg]
theorem c_named {x0 : Nat} {N : zM} {e : Nat → Int32} (hx : zSH x0 = .inl 4) (he : ∀ k, k < 6 → N.1 (x0 + 3) k = e k) (x : Int32) : fX4_namedValue x0 x N = some (nmV e x) := by
  unfold fX4_namedValue nmV
  by_cases h : x < 0
  · rw [if_pos h, if_pos h]
  · rw [if_neg h, if_neg h, if_pos hx]
    by_cases h6 : 6 ≤ x
    · rw [if_pos h6, if_pos h6]
    · rw [if_neg h6, if_neg h6]
      rcases split_ix x (n := 6) (by omega) with q | ⟨k, hk, rfl⟩
      · rcases q with q | q
        · exact absurd q h
        · exact absurd q h6
      · rw [if_pos (zinT hk (by omega)), nI_clamp (by omega), he k hk]
/-- one part -/
theorem c_part1 {x0 : Nat} {N : zM} {e : Nat → Int32} {st : List Int32} {x : Int32} (hx : zSH x0 = .inl 4) (he : ∀ k, k < 6 → N.1 (x0 + 3) k = e k) (hk : SK N (x0 + 2) st) (hl : st.length < 40) : wpO (if 2000 ≤ x then (zj (fun (_ : Unit) => if nI st.length ≤ 1 then some (nI st.length, N) else (if zin ((nI st.length + (-1)) - 1) 40 then (if zin (nI st.length + (-1)) 40 then ((fX4_joined (x - 2000) (N.1 (x0 + 2) ((nI st.length + (-1)) - 1).toNatClampNeg) (N.1 (x0 + 2) (nI st.length + (-1)).toNatClampNeg)).bind fun r9 => zlet (zSI N (x0 + 2) ((nI st.length + (-1)) - 1).toNatClampNeg r9) fun M200 => some (nI st.length + (-1), M200)) else none) else none)) fun J5 => if x = 3000 then (if nI st.length ≤ 0 then J5 () else (if zin (nI st.length - 1) 40 then (zlet (zSI N (x0 + 2) (nI st.length - 1).toNatClampNeg (-(N.1 (x0 + 2) (nI st.length - 1).toNatClampNeg))) fun M154 => some (nI st.length, M154)) else none)) else J5 ()) else ((if 1000 ≤ x then ((fX4_namedValue x0 (x - 1000) N).bind fun r16 => some r16) else some x).bind fun s0 => if zin (nI st.length) 40 then (zlet (zSI N (x0 + 2) (nI st.length).toNatClampNeg s0) fun M116 => some (nI st.length + 1, M116)) else none)) (fun q => q.1 = nI (evP e st x).length ∧ FrV x0 N q.2 ∧ SK q.2 (x0 + 2) (evP e st x) ∧ (evP e st x).length ≤ st.length + 1 ∧ q.2.1 (x0 + 3) = N.1 (x0 + 3)) := by
  have fSI : ∀ j y, FrV x0 N (zSI N (x0 + 2) j y) := fun j y => ⟨fun k h1 _ => zSI_other N j y h1, rfl⟩
  have gSI3 : ∀ j y, (zSI N (x0 + 2) j y).1 (x0 + 3) = N.1 (x0 + 3) := fun j y => zSI_other N j y (by omega)
  unfold evP
  by_cases c : 2000 ≤ x
  · rw [if_pos c, if_pos c]
    simp only [zj]
    by_cases c3 : x = 3000
    · rw [if_pos c3, if_pos c3]
      cases st with
      | nil =>
        rw [if_pos (show nI ([] : List Int32).length ≤ 0 from leT (b := 0) (Nat.le_refl 0) (by omega)), if_pos (show nI ([] : List Int32).length ≤ 1 from leT (a := 0) (b := 1) (by omega) (by omega))]
        exact wpO_ret ⟨rfl, FrV.refl x0 N, hk, Nat.zero_le _, rfl⟩
      | cons a t =>
        have hl' : t.length + 1 < 40 := hl
        obtain ⟨k1, k2⟩ := hk.pop
        show wpO (if nI (t.length + 1) ≤ 0 then _ else (if zin (nI (t.length + 1) - 1) 40 then (zlet (zSI N (x0 + 2) (nI (t.length + 1) - 1).toNatClampNeg (-(N.1 (x0 + 2) (nI (t.length + 1) - 1).toNatClampNeg))) fun M154 => some (nI (t.length + 1), M154)) else none)) _
        rw [nI_pred, nI_clamp (show t.length < 2 ^ 31 by omega), k2]
        exact wpO_fk (show ¬ nI (t.length + 1) ≤ 0 from leF (b := 0) (by omega) (by omega)) (wpO_tk (zinT (show t.length < 40 by omega) (by omega)) (wpO_ret ⟨rfl, fSI _ _, k1.push (-a), Nat.le_succ _, gSI3 _ _⟩))
    · rw [if_neg c3, if_neg c3]
      cases st with
      | nil =>
        rw [if_pos (show nI ([] : List Int32).length ≤ 1 from leT (a := 0) (b := 1) (by omega) (by omega))]
        exact wpO_ret ⟨rfl, FrV.refl x0 N, hk, Nat.zero_le _, rfl⟩
      | cons b s =>
        cases s with
        | nil =>
          rw [if_pos (show nI ([b] : List Int32).length ≤ 1 from leT (a := 1) (b := 1) (by omega) (by omega))]
          exact wpO_ret ⟨rfl, FrV.refl x0 N, hk, Nat.le_succ _, rfl⟩
        | cons a t =>
          have hl' : t.length + 1 + 1 < 40 := hl
          obtain ⟨k1, k2⟩ := hk.pop
          obtain ⟨k3, k4⟩ := k1.pop
          have k2 : N.1 (x0 + 2) (t.length + 1) = b := k2
          show wpO (if nI (t.length + 1 + 1) ≤ 1 then some (nI (t.length + 1 + 1), N) else (if zin ((nI (t.length + 1 + 1) + (-1)) - 1) 40 then (if zin (nI (t.length + 1 + 1) + (-1)) 40 then ((fX4_joined (x - 2000) (N.1 (x0 + 2) ((nI (t.length + 1 + 1) + (-1)) - 1).toNatClampNeg) (N.1 (x0 + 2) (nI (t.length + 1 + 1) + (-1)).toNatClampNeg)).bind fun r9 => zlet (zSI N (x0 + 2) ((nI (t.length + 1 + 1) + (-1)) - 1).toNatClampNeg r9) fun M200 => some (nI (t.length + 1 + 1) + (-1), M200)) else none) else none)) _
          rw [nI_m1, nI_pred, nI_clamp (show t.length + 1 < 2 ^ 31 by omega), nI_clamp (show t.length < 2 ^ 31 by omega), k2, k4, joined_jn]
          exact wpO_fk (show ¬ nI (t.length + 1 + 1) ≤ 1 from leF (b := 1) (by omega) (by omega)) (wpO_tk (zinT (show t.length < 40 by omega) (by omega)) (wpO_tk (zinT (show t.length + 1 < 40 by omega) (by omega)) (wpO_ek rfl (wpO_ret ⟨rfl, fSI _ _, k3.push _, by show t.length + 1 ≤ t.length + 1 + 1 + 1; omega, gSI3 _ _⟩))))
  · rw [if_neg c, if_neg c, c_named hx he]
    have e1 : (if 1000 ≤ x then ((some (nmV e (x - 1000))).bind fun r16 => some r16) else some x) = some (if 1000 ≤ x then nmV e (x - 1000) else x) := by
      by_cases q : 1000 ≤ x
      · rw [if_pos q, if_pos q]; rfl
      · rw [if_neg q, if_neg q]
    refine wpO_ek e1 (wpO_tk (zinT hl (by omega)) ?_)
    rw [nI_clamp (show st.length < 2 ^ 31 by omega), nI_1]
    exact wpO_ret ⟨rfl, fSI _ _, hk.push _, Nat.le_refl _, gSI3 _ _⟩
theorem c_value {x0 : Nat} {M : zM} {l : List Int32} (hx : x0 = 13 ∨ x0 = 17) (hP : PartsAre M x0 l) (x1 x2 x3 x4 x5 x6 : Int32) {v : Int32} {e : Nat → Int32} (he : e 0 = x1 ∧ e 1 = x2 ∧ e 2 = x3 ∧ e 3 = x4 ∧ e 4 = x5 ∧ e 5 = x6) (hv : rn e l [] = [v]) : wpO (fX4_valueOf x0 x1 x2 x3 x4 x5 x6 M) (fun q => q.1 = v ∧ FrV x0 M q.2) := by
  have hs : zSH x0 = .inl 4 := by rcases hx with rfl | rfl <;> rfl
  obtain ⟨p1, p2, p3⟩ := hP
  unfold fX4_valueOf
  refine wpO_tk hs (wpO_lk (wpO_lk (wpO_lk (wpO_lk (wpO_lk (wpO_lk ?_))))))
  generalize hM2 : zSI (zSI (zSI (zSI (zSI (zSI M (x0 + 3) 0 x1) (x0 + 3) 1 x2) (x0 + 3) 2 x3) (x0 + 3) 3 x4) (x0 + 3) 4 x5) (x0 + 3) 5 x6 = M2
  have f2 : FrV x0 M M2 := by
    subst hM2
    exact ⟨fun k _ h => by rw [zSI_other _ _ _ h, zSI_other _ _ _ h, zSI_other _ _ _ h, zSI_other _ _ _ h, zSI_other _ _ _ h, zSI_other _ _ _ h], rfl⟩
  have he2 : ∀ k, k < 6 → M2.1 (x0 + 3) k = e k := by
    intro k hk
    subst hM2
    obtain ⟨a0, a1, a2, a3, a4, a5⟩ := he
    have : k = 0 ∨ k = 1 ∨ k = 2 ∨ k = 3 ∨ k = 4 ∨ k = 5 := by omega
    simp only [gSI]
    rcases this with rfl | rfl | rfl | rfl | rfl | rfl <;> simp [*]
  have loop : wpO (fX4_valueOf_L51 x0 4000 0 0 M2) (fun q => q.1 = nI (rn e l []).length ∧ FrV x0 M q.2 ∧ SK q.2 (x0 + 2) (rn e l [])) := by
    have key : ∀ k i n N, i + k = l.length → k < n → FrV x0 M N → (∀ k, k < 6 → N.1 (x0 + 3) k = e k) → SK N (x0 + 2) (rn e (l.take i) []) → (rn e (l.take i) []).length ≤ i → wpO (fX4_valueOf_L51 x0 n (nI (rn e (l.take i) []).length) (nI i) N) (fun q => q.1 = nI (rn e l []).length ∧ FrV x0 M q.2 ∧ SK q.2 (x0 + 2) (rn e l [])) := by
      intro k
      induction k with
      | zero =>
        intro i n N hi hn f hE hK hL
        obtain ⟨n, rfl⟩ : ∃ m, n = m + 1 := ⟨n - 1, by omega⟩
        rw [List.take_of_length_le (by omega)] at hK hL ⊢
        rw [fX4_valueOf_L51.eq_2]
        refine wpO_tk hs (wpO_tk ?_ (wpO_ret ⟨rfl, f, hK⟩))
        rw [f.1 x0 (by omega) (by omega), p2]
        exact leT (by omega) (by omega)
      | succ k ih =>
        intro i n N hi hn f hE hK hL
        obtain ⟨n, rfl⟩ : ∃ m, n = m + 1 := ⟨n - 1, by omega⟩
        have hil : i < l.length := by omega
        have ei : l[i]? = some l[i] := List.getElem?_eq_getElem hil
        have et : l.take (i + 1) = l.take i ++ [l[i]] := by rw [List.take_add_one, ei]; rfl
        rw [fX4_valueOf_L51.eq_2]
        refine wpO_tk hs (wpO_fk (by rw [f.1 x0 (by omega) (by omega), p2]; exact leF hil (by omega)) (wpO_tk (zinT (show i < 40 by omega) (by omega)) (wpO_lk ?_)))
        rw [nI_clamp (show i < 2 ^ 31 by omega), f.1 (x0 + 1) (by omega) (by omega), p3 i _ ei]
        have e3 : rn e (l.take (i + 1)) [] = evP e (rn e (l.take i) []) l[i] := by rw [et, rn_app]; rfl
        have ht : ¬ 40 ≤ nI (rn e (l.take i) []).length := leF (a := 40) (by omega) (by omega)
        simp only [if_neg ht]
        refine wpO_bk (wpO_mono (c_part1 hs hE hK (by omega)) ?_)
        rintro ⟨t, N2⟩ ⟨e1, f3, k3, l3, r3⟩
        dsimp only at e1 f3 k3 l3 r3
        subst e1
        refine wpO_pk ?_
        rw [← e3, nI_1] at *
        exact ih (i + 1) n N2 (by omega) (by omega) (f.trans f3) (fun q hq => by rw [r3]; exact hE q hq) k3 (by omega)
    exact key l.length 0 4000 M2 (by omega) (by omega) f2 he2 (fun j y hj => by cases hj) (Nat.le_refl 0)
  refine wpO_bk (wpO_mono loop ?_)
  rintro ⟨t, N⟩ ⟨e1, f, k⟩
  dsimp only at e1 f k
  subst e1
  rw [hv] at k ⊢
  refine wpO_pk (wpO_fk (show ¬ nI ([v] : List Int32).length ≤ 0 from leF (a := 1) (b := 0) (by omega) (by omega)) (wpO_ret ⟨k 0 v rfl, f⟩))
/-! THE RULE IN FORCE, on both sides -/
def pv (e : Nat → Int32) : Int32 := (e 0 * 2 - e 1 * 3) - e 2
def plainL : List Int32 := [1000, 2, 2042, 1001, 3, 2042, 2045, 1002, 2045]
theorem plain_rn (e : Nat → Int32) : rn e plainL [] = [pv e] := by
  have h1 := rn_name e (show 0 < 6 by omega)
  have h2 := rn_name e (show 1 < 6 by omega)
  have h3 := rn_name e (show 2 < 6 by omega)
  have o42 := fun a b st => rn_op e (x := 42) (by decide) a b st
  have o45 := fun a b st => rn_op e (x := 45) (by decide) a b st
  show rn e ([1000 + nI 0] ++ ([nI 2] ++ ([2000 + 42] ++ ([1000 + nI 1] ++ ([nI 3] ++ ([2000 + 42] ++ ([2000 + 45] ++ ([1000 + nI 2] ++ [2000 + 45])))))))) [] = _
  rw [rn_app, h1, rn_app, rn_num e (by omega), rn_app, o42, rn_app, h2, rn_app, rn_num e (by omega), rn_app, o42, rn_app, o45, rn_app, h3, o45]
  rfl
/-- the reference's rule in row a, S signs, comes to v -/
def RefR (M : zM) (a S : Nat) (v : (Nat → Int32) → Int32) : Prop := (S = 0 ∧ v = pv) ∨ (1 ≤ S ∧ S ≤ 40 ∧ ∃ g, GS g S ∧ (∀ j, j < S → M.1 a j = (g j).toInt8.toInt32) ∧ (pAll g).1 = true ∧ v = (pAll g).2.2.2)
def RU (M : zM) : Prop := ∃ l v S, PartsAre M 13 l ∧ (∀ e, rn e l [] = [v e]) ∧ M.1 36 21 = nI S ∧ RefR M 44 S v
theorem RU.of {M N : zM} (h : RU M) (h13 : N.1 13 = M.1 13) (h14 : N.1 14 = M.1 14) (h44 : N.1 44 = M.1 44) (h21 : N.1 36 21 = M.1 36 21) : RU N := by
  obtain ⟨l, v, S, ⟨a1, a2, a3⟩, b, c, d⟩ := h
  refine ⟨l, v, S, ⟨a1, by rw [h13]; exact a2, fun j x hj => by rw [h14]; exact a3 j x hj⟩, b, by rw [h21]; exact c, ?_⟩
  rcases d with d | ⟨d1, d2, g, d3, d4, d5⟩
  · exact Or.inl d
  · exact Or.inr ⟨d1, d2, g, d3, fun j hj => by rw [h44]; exact d4 j hj, d5⟩
theorem RU.fr {M N : zM} (f : Fr M N) (h : RU M) : RU N := h.of (f.1 13 rfl) (f.1 14 rfl) (f.1 44 rfl) (f.2.1 21 rfl)
/-- what a rule is asked with, of thing t in row a -/
def sE (M : zM) (a : Nat) (told : Int32) (t : Nat) : Nat → Int32
  | 0 => fJ6_bitCount_0f7a4 (told &&& M.1 38 t)
  | 1 => fJ6_bitCount_0f7a4 (told &&& (M.1 38 t ^^^ (-1)))
  | 2 => fJ6_bitCount_0f7a4 (M.1 38 t &&& (told ^^^ (-1)))
  | 3 => M.1 39 t
  | 4 => if M.1 a t = 2 then M.1 a (16 + t) else 0
  | 5 => zrem (M.1 a 24) 7
  | _ => 0
def FrQ (M N : zM) : Prop := (∀ k, k ≠ 36 → k ≠ 46 → N.1 k = M.1 k) ∧ (∀ j, j < 13 ∨ 17 < j → j ≠ 22 → N.1 36 j = M.1 36 j) ∧ N.2.1 = M.2.1 ∧ ∀ j, j ≠ 13 → N.2.2 j = M.2.2 j
theorem FrQ.refl (M : zM) : FrQ M M := ⟨fun _ _ _ => rfl, fun _ _ _ => rfl, rfl, fun _ _ => rfl⟩
theorem FrQ.trans {A B C : zM} (h : FrQ A B) (k : FrQ B C) : FrQ A C := ⟨fun j a b => (k.1 j a b).trans (h.1 j a b), fun j a b => (k.2.1 j a b).trans (h.2.1 j a b), k.2.2.1.trans h.2.2.1, fun j a => (k.2.2.2 j a).trans (h.2.2.2 j a)⟩
theorem FrQ.SI (M : zM) (j : Nat) (x : Int32) : FrQ M (zSI M 46 j x) := ⟨fun k _ h => zSI_other M j x h, fun i _ _ => by rw [zSI_other M j x (by omega)], rfl, fun _ _ => rfl⟩
theorem FrQ.SI36 (M : zM) (j : Nat) (x : Int32) (hj : (13 ≤ j ∧ j ≤ 17) ∨ j = 22) : FrQ M (zSI M 36 j x) := ⟨fun k h _ => zSI_other M j x h, fun i h1 h2 => by rw [gSI, if_neg (by omega)], rfl, fun _ _ => rfl⟩
theorem FrQ.SD (M : zM) (x : Option Nat) : FrQ M (zSD M 13 x) := ⟨fun _ _ _ => rfl, fun _ _ _ => rfl, rfl, fun j hj => by rw [gSD, if_neg hj]⟩
theorem FrQ.ofR {M N : zM} (h : FrR M N) : FrQ M N := ⟨fun k h1 _ => h.1 k h1, fun j h1 _ => h.2.1 j (by omega) (by omega), by rw [h.2.2], fun j _ => by rw [h.2.2]⟩
theorem FrQ.toM {M N : zM} (h : FrQ M N) : FrM M N := by
  refine ⟨fun k hk => h.1 k (by omega) (by omega), by rw [h.2.2.1], fun k hk => h.1 k (fun z => by rw [z] at hk; cases hk) (fun z => by rw [z] at hk; cases hk), fun j hj => h.2.1 j ?_ ?_, h.2.2.2 19 (by omega), h.2.2.2 20 (by omega)⟩
  · unfold ps at hj
    simp at hj
    omega
  · intro z
    rw [z] at hj
    cases hj
theorem zSH4 {a : Nat} (ha : a = 44 ∨ a = 45) : zSH a = .inr (3, zLen a) ∧ zLen a = 40 := by rcases ha with rfl | rfl <;> exact ⟨rfl, rfl⟩
/-- the reference begins a text of n signs in row a, and asks -/
theorem m_begin {M : zM} {a n most : Nat} : FrQ M (fX12_begin a (nI n) (nI most) M) ∧ (fX12_begin a (nI n) (nI most) M).1 36 14 = nI n ∧ (fX12_begin a (nI n) (nI most) M).1 36 15 = nI most ∧ (fX12_begin a (nI n) (nI most) M).1 36 16 = 0 ∧ (fX12_begin a (nI n) (nI most) M).1 36 17 = -1 ∧ (fX12_begin a (nI n) (nI most) M).2.2 13 = some a := by
  have e : fX12_begin a (nI n) (nI most) M = zSI (zSI (zSI (zSI (zSD M 13 (some a)) 36 14 (nI n)) 36 15 (nI most)) 36 16 0) 36 17 (-1) := rfl
  rw [e]
  refine ⟨((((FrQ.SD M (some a)).trans (FrQ.SI36 _ 14 _ (by omega))).trans (FrQ.SI36 _ 15 _ (by omega))).trans (FrQ.SI36 _ 16 _ (by omega))).trans (FrQ.SI36 _ 17 _ (by omega)), ?_, ?_, ?_, ?_, rfl⟩
  · rw [gSI, gSI, gSI, gSI]; simp
  · rw [gSI, gSI, gSI]; simp
  · rw [gSI, gSI]; simp
  · rw [gSI]; simp
theorem m_matchOf {M : zM} {x1 a S t : Nat} {told : Int32} {v : (Nat → Int32) → Int32} (hx : zSH x1 = .inr (0, 26)) (hx2 : x1 ≠ 36 ∧ x1 ≠ 46) (ht : t < 8) (h19 : M.2.2 19 = some a) (ha : a = 44 ∨ a = 45) (h21 : M.1 36 21 = nI S) (hR : RefR M a S v) : wpO (fX12_matchOf x1 told (nI t) M) (fun q => q.1 = v (sE M x1 told t) ∧ FrQ M q.2) := by
  have hlen : zLen x1 = 26 := zLen_of hx
  unfold fX12_matchOf
  refine wpO_tk (zinT ht (by omega)) ?_
  rw [nI_clamp (show t < 2 ^ 31 by omega)]
  refine wpO_lk (wpO_lk (wpO_lk ?_))
  rcases hR with ⟨rfl, rfl⟩ | ⟨s1, s2, g, hg, hb, hok, rfl⟩
  · exact wpO_tk (by rw [h21]; rfl) (wpO_ret ⟨rfl, FrQ.refl M⟩)
  · refine wpO_fk (by rw [h21]; exact nI_ne0 (by omega) (by omega)) (wpO_lk (wpO_lk (wpO_lk (wpO_lk (wpO_tk (by rw [hlen]; exact hx) (wpO_tk (by rw [hlen]; exact zinT (show t < 26 by omega) (by omega)) ?_))))))
    generalize hM1 : zSI (zSI (zSI M 46 0 (fJ6_bitCount_0f7a4 (told &&& M.1 38 t))) 46 1 (fJ6_bitCount_0f7a4 (told &&& (M.1 38 t ^^^ (-1))))) 46 2 (fJ6_bitCount_0f7a4 (M.1 38 t &&& (told ^^^ (-1)))) = M1
    have f1 : FrQ M M1 := by subst hM1; exact ((FrQ.SI M _ _).trans (FrQ.SI _ _ _)).trans (FrQ.SI _ _ _)
    have w : M1.1 39 t = M.1 39 t := by rw [f1.1 39 (by omega) (by omega)]
    rw [w]
    have f2 : FrQ M (zSI M1 46 3 (M.1 39 t)) := f1.trans (FrQ.SI _ _ _)
    rw [f2.1 x1 hx2.1 hx2.2, show (16 : Int32) + nI t = nI (16 + t) from nI_add 16 t, nI_clamp (show 16 + t < 2 ^ 31 by omega), hlen]
    have e4 : (if M.1 x1 t = 2 then (if zin (nI (16 + t)) 26 then some (M.1 x1 (16 + t)) else none) else some 0) = some (if M.1 x1 t = 2 then M.1 x1 (16 + t) else 0) := by
      rw [if_pos (zinT (show 16 + t < 26 by omega) (by omega))]
      split <;> rfl
    refine wpO_ek e4 (wpO_lk (wpO_tk (show zin 24 26 from zinT (i := 24) (by omega) (by omega)) (wpO_lk ?_)))
    have f3 : FrQ M (zSI (zSI M1 46 3 (M.1 39 t)) 46 4 (if M.1 x1 t = 2 then M.1 x1 (16 + t) else 0)) := f2.trans (FrQ.SI _ _ _)
    rw [f3.1 x1 hx2.1 hx2.2]
    generalize hM2 : zSI (zSI (zSI M1 46 3 (M.1 39 t)) 46 4 (if M.1 x1 t = 2 then M.1 x1 (16 + t) else 0)) 46 5 (zrem (M.1 x1 24) 7) = M2
    have f4 : FrQ M M2 := by subst hM2; exact f3.trans (FrQ.SI _ _ _)
    have he : ∀ k, k < 6 → M2.1 46 k = sE M x1 told t k := by
      intro k hk
      subst hM2 hM1
      have : k = 0 ∨ k = 1 ∨ k = 2 ∨ k = 3 ∨ k = 4 ∨ k = 5 := by omega
      simp only [gSI]
      rcases this with rfl | rfl | rfl | rfl | rfl | rfl <;> simp [sE]
    refine wpO_ek (show M2.2.2 19 = some a by rw [f4.2.2.2 19 (by omega)]; exact h19) (wpO_lk (wpO_lk ?_))
    rw [f4.2.1 21 (by omega) (by omega), h21]
    obtain ⟨g1, g2, g3, g4, g5, g6⟩ := m_begin (M := M2) (a := a) (n := S) (most := 40)
    generalize hM3 : fX12_begin a (nI S) (nI 40) M2 = M3 at g1 g2 g3 g4 g5 g6
    have hM3' : fX12_begin a (nI S) 40 M2 = M3 := hM3
    rw [hM3']
    have f5 : FrQ M (zSI M3 36 22 1) := (f4.trans g1).trans (FrQ.SI36 _ 22 _ (by omega))
    have hA := zSH4 ha
    have hst : MSt g S S a (sE M x1 told t) (zSI M3 36 22 1) 0 true := by
      refine ⟨⟨?_, ?_, ?_, ?_⟩, ⟨g6, hA.1, by omega, by omega, by omega, fun j hj => ?_⟩, Or.inr ⟨?_, fun k hk => ?_⟩, by omega, by omega, by omega⟩
      · rw [gSI]; simp [g2]
      · rw [gSI]; simp [g3]
      · rw [gSI]; simp [g4]; rfl
      · rw [gSI]; simp [g5]
      · rw [f5.1 a (by omega) (by omega)]; exact hb j hj
      · rw [gSI, if_pos ⟨rfl, rfl⟩]; decide
      · rw [zSI_other _ _ _ (by omega), ← he k hk]
        subst hM3
        rfl
    refine wpO_bk (wpO_mono (m_all hg hst) ?_)
    rintro ⟨y, N⟩ ⟨h1, h2, h3⟩
    exact wpO_pk (wpO_lk (wpO_ret ⟨h3 hok, (f5.trans (FrQ.ofR h1)).trans (FrQ.SI36 _ 22 _ (by omega))⟩))
