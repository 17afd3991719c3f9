/-! how well a description matches, on both sides -/
def CE (B N : zM) (w : Nat) : Prop := N.1 5 = B.1 5 ∧ N.1 6 = B.1 6 ∧ N.1 7 = B.1 7 ∧ N.1 13 = B.1 13 ∧ N.1 14 = B.1 14 ∧ N.1 w = B.1 w ∧ N.1 (w + 3) = B.1 (w + 3) ∧ N.1 0 18 = B.1 0 18
theorem CE.refl (B : zM) (w : Nat) : CE B B w := ⟨rfl, rfl, rfl, rfl, rfl, rfl, rfl, rfl⟩
theorem CE.fr {B N N2 : zM} {w : Nat} (h : CE B N w) (hw : 60 ≤ w) (f : FrV 13 N N2) : CE B N2 w := by
  obtain ⟨a1, a2, a3, a4, a5, a6, a7, a8⟩ := h
  have g := f.1
  exact ⟨(g 5 (by omega) (by omega)).trans a1, (g 6 (by omega) (by omega)).trans a2, (g 7 (by omega) (by omega)).trans a3, (g 13 (by omega) (by omega)).trans a4, (g 14 (by omega) (by omega)).trans a5, (g w (by omega) (by omega)).trans a6, (g (w + 3) (by omega) (by omega)).trans a7, by rw [g 0 (by omega) (by omega)]; exact a8⟩
theorem CE.ofC {B N : zM} (f : FrC B N) : CE B N 60 := ⟨f.2.2.2.1 5 rfl, f.2.2.2.1 6 rfl, f.2.2.2.1 7 rfl, f.2.2.2.1 13 rfl, f.2.2.2.1 14 rfl, f.2.2.2.1 60 rfl, f.2.2.2.1 63 rfl, f.2.2.2.2.2⟩
theorem FrV.toC {M N : zM} (f : FrV 13 M N) : FrC M N := ⟨fun k h1 h2 => f.1 k (by omega) (by omega), fun k _ => by rw [f.2], by rw [f.2], fun k hk => f.1 k (fun z => by rw [z] at hk; cases hk) (fun z => by rw [z] at hk; cases hk), by rw [f.1 0 (by omega) (by omega)], by rw [f.1 0 (by omega) (by omega)]⟩
theorem FrV.row {M N : zM} (f : FrV 13 M N) : N.1 3 = M.1 3 ∧ N.2.1 4 = M.2.1 4 := ⟨f.1 3 (by omega) (by omega), by rw [f.2]⟩
def ME (B N : zM) (x ar : Nat) : Prop := N.1 36 1 = B.1 36 1 ∧ N.1 38 = B.1 38 ∧ N.1 39 = B.1 39 ∧ N.1 x = B.1 x ∧ N.1 ar = B.1 ar ∧ N.1 36 21 = B.1 36 21 ∧ N.1 36 4 = B.1 36 4 ∧ N.2.2 19 = B.2.2 19
theorem ME.refl (B : zM) (x ar : Nat) : ME B B x ar := ⟨rfl, rfl, rfl, rfl, rfl, rfl, rfl, rfl⟩
theorem ME.fr {B N N2 : zM} {x ar : Nat} (h : ME B N x ar) (hx : x ≠ 36 ∧ x ≠ 46) (har : ar = 44 ∨ ar = 45) (f : FrQ N N2) : ME B N2 x ar := by
  obtain ⟨a1, a2, a3, a4, a5, a6, a7, a8⟩ := h
  have g := f.1
  exact ⟨(f.2.1 1 (by omega) (by omega)).trans a1, (g 38 (by omega) (by omega)).trans a2, (g 39 (by omega) (by omega)).trans a3, (g x hx.1 hx.2).trans a4, (g ar (by omega) (by omega)).trans a5, (f.2.1 21 (by omega) (by omega)).trans a6, (f.2.1 4 (by omega) (by omega)).trans a7, (f.2.2.2 19 (by omega)).trans a8⟩
theorem ME.ofE {B N : zM} (e : E12 B N) : ME B N 37 44 := ⟨e.2.1 1 rfl, e.1 38 (by omega) (by omega) rfl, e.1 39 (by omega) (by omega) rfl, e.1 37 (by omega) (by omega) rfl, e.1 44 (by omega) (by omega) rfl, e.2.1 21 rfl, e.2.1 4 rfl, e.2.2.1⟩
theorem FrQ.row {M N : zM} (f : FrQ M N) : N.1 36 11 = M.1 36 11 ∧ N.2.1 = M.2.1 := ⟨f.2.1 11 (by omega) (by omega), f.2.2.1⟩
def AR (B : zM) (ar S : Nat) (v : (Nat → Int32) → Int32) : Prop := B.2.2 19 = some ar ∧ (ar = 44 ∨ ar = 45) ∧ B.1 36 21 = nI S ∧ RefR B ar S v
def RV (B : zM) (l : List Int32) (v : (Nat → Int32) → Int32) (S : Nat) : Prop := PartsAre B 13 l ∧ (∀ e, rn e l [] = [v e]) ∧ B.1 36 21 = nI S ∧ RefR B 44 S v
theorem sE_congr {B N : zM} {a : Nat} (h1 : N.1 38 = B.1 38) (h2 : N.1 39 = B.1 39) (h3 : N.1 a = B.1 a) (told : Int32) (t : Nat) : sE N a told t = sE B a told t := by
  funext k
  unfold sE
  rw [h1, h2, h3]
section MT
variable {B N : zM} {n nd w a t S ar : Nat} {told : Int32} {l : List Int32} {v : (Nat → Int32) → Int32}
theorem c_mt (hS : RS B n nd) (hW : RW B n w a 0) (hw : zSH w = .inl 10) (hR : RV B l v S) (ht : t < n) (e : CE B N w) : wpO (fX11_matchOf told (nI t) w N) (fun q => q.1 = v (sE B a told t) ∧ FrV 13 N q.2) := by
  obtain ⟨⟨h8, h6⟩, ⟨s1, s2, s3, s4⟩, hm, hwo, -⟩ := hS
  obtain ⟨e5, e6, e7, e13, e14, ew, ew3, e0⟩ := e
  have hd := hW.1 t ht
  simp only [Nat.zero_add] at hd
  have hdays : zmax 0 (B.1 (w + 3) t) = if B.1 a t = 2 then B.1 a (16 + t) else 0 := by
    rcases RWt_in hd with ⟨c1, c2, c3, -, d, hd, ed⟩ | ⟨c1, c2⟩
    · rw [if_pos c1, c3, ed]
      have := zmax_nI (a := 0) (b := d) (by omega) (by omega)
      rw [show max 0 d = d by omega] at this
      exact this
    · rw [if_neg c1]
      unfold zmax
      rw [if_neg (fun z => by
        have a1 := Int32.lt_iff_toInt_lt.mp z
        have a2 := Int32.lt_iff_toInt_lt.mp c2
        omega)]
  have hday : B.1 w 4 = B.1 a 24 := by have := hW.2.2.1; rwa [Nat.zero_add] at this
  unfold fX11_matchOf
  refine wpO_tk hw (wpO_tk (zinT (show t < 8 by omega) (by omega)) ?_)
  rw [nI_clamp (show t < 2 ^ 31 by omega), e6, e7, ew3, (hm t ht).1, (hwo t ht).1, hdays]
  refine wpO_lk (wpO_lk (wpO_lk (wpO_lk (wpO_lk (wpO_ek (show fX10_weekday w N = some (zrem (B.1 a 24) 7) by unfold fX10_weekday; rw [if_pos hw, ew, hday]) ?_)))))
  have hP : PartsAre N 13 l := ⟨hR.1.1, by rw [e13]; exact hR.1.2.1, fun j x hj => by rw [e14]; exact hR.1.2.2 j x hj⟩
  refine wpO_bk (wpO_mono (c_value (Or.inl rfl) hP _ _ _ _ _ _ (e := sE B a told t) ⟨rfl, rfl, rfl, rfl, rfl, rfl⟩ (hR.2.1 _)) ?_)
  rintro ⟨y, N2⟩ ⟨h1, h2⟩
  exact wpO_pk (wpO_ret ⟨h1, h2⟩)
theorem m_mt (hx : zSH a = .inr (0, 26)) (hx2 : a ≠ 36 ∧ a ≠ 46) (hA : AR B ar S v) (ht : t < 8) (e : ME B N a ar) : wpO (fX12_matchOf a told (nI t) N) (fun q => q.1 = v (sE B a told t) ∧ FrQ N q.2) := by
  obtain ⟨e1, e38, e39, ea, e44, e21, e4, e19⟩ := e
  obtain ⟨h19, har, h21, hR⟩ := hA
  have hR2 : RefR N ar S v := by
    rcases hR with d | ⟨d1, d2, g, d3, d4, d5⟩
    · exact Or.inl d
    · exact Or.inr ⟨d1, d2, g, d3, fun j hj => by rw [e44]; exact d4 j hj, d5⟩
  have := m_matchOf (M := N) (told := told) hx hx2 ht (e19.trans h19) har (e21.trans h21) hR2
  rw [sE_congr e38 e39 ea] at this
  exact this
/-! the best thing that is in -/
def bS (I : Nat → Bool) (V : Nat → Int32) (t : Nat) (s : Option Nat) : Option Nat := if I t = true then (match s with | none => some t | some b => if V b < V t then some t else some b) else s
def bF (I : Nat → Bool) (V : Nat → Int32) (q : Int32) : Option Nat → Option Nat
  | none => none
  | some b => if V b < q then none else some b
theorem bS_P {I : Nat → Bool} {V : Nat → Int32} {n i : Nat} {s : Option Nat} (hi : i < n) (h : ∀ b, s = some b → b < n ∧ I b = true) : ∀ b, bS I V i s = some b → b < n ∧ I b = true := by
  intro b hb
  unfold bS at hb
  split at hb
  · rename_i c
    cases s with
    | none => cases hb; exact ⟨hi, c⟩
    | some q =>
      have z := h q rfl
      dsimp only at hb
      split at hb
      · cases hb; exact ⟨hi, c⟩
      · cases hb; exact z
  · exact h b hb
theorem bF_eq {I : Nat → Bool} {V : Nat → Int32} (q : Int32) (n : Nat) : fd (bS (fun t => I t && !decide (V t < q)) V) none n = bF I V q (fd (bS I V) none n) := by
  refine fd_rel (f := bS (fun t => I t && !decide (V t < q)) V) (g := bS I V) (s := none) (t := none) (fun _ x y => x = bF I V q y) rfl (fun t x y _ h => ?_)
  subst h
  unfold bS
  by_cases c : I t = true
  · rw [if_pos c]
    simp only [c, Bool.true_and]
    cases y with
    | none =>
      show (if (!decide (V t < q)) = true then some t else none) = if V t < q then none else some t
      by_cases d : V t < q <;> simp [d]
    | some b =>
      show (if (!decide (V t < q)) = true then (match (if V b < q then none else some b) with | none => some t | some b => if V b < V t then some t else some b) else (if V b < q then none else some b)) = bF I V q (if V b < V t then some t else some b)
      have tr : V b < V t → V t < q → V b < q := fun h1 h2 => by
        rw [Int32.lt_iff_toInt_lt] at *; omega
      have tr2 : ¬ V b < V t → V b < q → V t < q := fun h1 h2 => by
        rw [Int32.lt_iff_toInt_lt] at *; omega
      by_cases d1 : V t < q <;> by_cases d2 : V b < q <;> by_cases d3 : V b < V t <;> simp [d1, d2, d3, bF] <;> first | exact absurd (tr d3 d1) d2 | exact absurd (tr2 d3 d2) d1
  · rw [if_neg c, if_neg (by simp [c])]
def oC : Option Nat → Int32
  | none => -1
  | some b => nI b
def oM : Option Nat → Int32
  | none => -2
  | some b => nI b
/-- what both look for: the best of those that are in, if it is had -/
def gO (B : zM) (n a : Nat) (v : (Nat → Int32) → Int32) (told : Int32) : Option Nat := bF (fun t => decide (B.1 a t = 2)) (fun t => v (sE B a told t)) (B.1 36 4) (fd (bS (fun t => decide (B.1 a t = 2)) (fun t => v (sE B a told t))) none n)
theorem gO_P {B : zM} {n a : Nat} {v : (Nat → Int32) → Int32} {told : Int32} : ∀ b, gO B n a v told = some b → b < n ∧ B.1 a b = 2 := by
  intro b hb
  have h := fd_inv (f := bS (fun t => decide (B.1 a t = 2)) (fun t => v (sE B a told t))) (s := none) (fun _ s => ∀ b, s = some b → b < n ∧ decide (B.1 a b = 2) = true) (fun b z => by cases z) (n := n) (fun i s hi h => bS_P hi h)
  unfold gO at hb
  generalize fd (bS (fun t => decide (B.1 a t = 2)) (fun t => v (sE B a told t))) none n = s at h hb
  cases s with
  | none => cases hb
  | some c =>
    unfold bF at hb
    dsimp only at hb
    split at hb
    · cases hb
    · cases hb
      exact ⟨(h b rfl).1, of_decide_eq_true (h b rfl).2⟩
theorem c_best (hS : RS B n nd) (hW : RW B n w a 0) (hw : zSH w = .inl 10) (hw60 : 60 ≤ w) (hR : RV B l v S) (hq : B.1 0 18 = B.1 36 4) (e : CE B N w) : wpO (fX11_bestThing told w N) (fun q => q.1 = oC (gO B n a v told) ∧ FrV 13 N q.2) := by
  have h8 := hS.1.1
  generalize hV : (fun t => v (sE B a told t)) = V
  have eV : ∀ t, v (sE B a told t) = V t := fun t => by rw [← hV]
  generalize hI : (fun t => decide (B.1 a t = 2)) = I
  have eI : ∀ t, I t = decide (B.1 a t = 2) := fun t => by rw [← hI]
  generalize hI2 : (fun t => I t && !decide (V t < B.1 36 4)) = I2
  have eI2 : ∀ t, I2 t = (I t && !decide (V t < B.1 36 4)) := fun t => by rw [← hI2]
  have key : ∀ k i m N s x, i + k = n → k < m → CE B N w → (∀ b, s = some b → b < n ∧ x = V b) → wpO (fX11_bestThing_L8 told w m (oC s) x (nI i) N) (fun q => q.1 = oC (fd (fun j => bS I2 V (i + j)) s k) ∧ FrV 13 N q.2) := by
    intro k
    induction k with
    | zero =>
      intro i m N s x hi hm e hs
      obtain ⟨m, rfl⟩ : ∃ q, m = q + 1 := ⟨m - 1, by omega⟩
      rw [fX11_bestThing_L8.eq_2]
      have : i = n := by omega
      subst this
      exact wpO_tk (by rw [e.1, hS.2.1.1]; exact leT (Nat.le_refl i) (by omega)) (wpO_ret ⟨rfl, FrV.refl 13 N⟩)
    | succ k ih =>
      intro i m N s x hi hm e hs
      obtain ⟨m, rfl⟩ : ∃ q, m = q + 1 := ⟨m - 1, by omega⟩
      have hin : i < n := by omega
      rw [fX11_bestThing_L8.eq_2]
      refine wpO_fk (by rw [e.1, hS.2.1.1]; exact leF hin (by omega)) (wpO_tk hw (wpO_ek (pX10_isIn hw (show i < 8 by omega)) ?_))
      have ef : fd (fun j => bS I2 V (i + j)) s (k + 1) = fd (fun j => bS I2 V (i + 1 + j)) (bS I2 V i s) k := by
        have gen : ∀ k, fd (fun j => bS I2 V (i + j)) s (k + 1) = fd (fun j => bS I2 V (i + 1 + j)) (bS I2 V i s) k := by
          intro k
          induction k with
          | zero => rfl
          | succ k ih2 =>
            show bS I2 V (i + (k + 1)) (fd (fun j => bS I2 V (i + j)) s (k + 1)) = bS I2 V (i + 1 + k) (fd (fun j => bS I2 V (i + 1 + j)) (bS I2 V i s) k)
            rw [ih2, show i + (k + 1) = i + 1 + k by omega]
        exact gen k
      rw [ef, e.2.2.2.2.2.2.1]
      have hd := hW.1 i hin
      simp only [Nat.zero_add] at hd
      rcases RWt_in hd with ⟨c1, c2, -⟩ | ⟨c1, c2⟩
      · rw [if_neg c2]
        have iI : I i = true := by rw [eI]; exact decide_eq_true c1
        refine wpO_bk (wpO_fk (by decide) (wpO_bk (wpO_mono (c_mt hS hW hw hR hin e) ?_)))
        rintro ⟨y, N2⟩ ⟨h1, f1⟩
        dsimp only at h1 f1
        rw [eV] at h1
        subst h1
        refine wpO_pk ?_
        have e2 := e.fr hw60 f1
        rw [e2.2.2.2.2.2.2.2, hq]
        by_cases d1 : V i < B.1 36 4
        · have es : bS I2 V i s = s := by unfold bS; rw [if_neg (by rw [eI2]; simp [d1])]
          rw [es]
          refine wpO_tk d1 (wpO_ret (wpO_pk (wpO_pk ?_)))
          rw [nI_1]
          exact wpO_mono (ih (i + 1) m N2 s x (by omega) (by omega) e2 hs) (fun q h => ⟨h.1, f1.trans h.2⟩)
        · refine wpO_fk d1 ?_
          simp only [zj]
          have i2 : I2 i = true := by rw [eI2]; simp [d1, iI]
          have take : bS I2 V i s = some i → wpO (some (nI i, V i, N2)) (fun r => wpO (zp r fun x3 q => zp q fun x4 M => fX11_bestThing_L8 told w m x3 x4 (nI i + 1) M) (fun q => q.1 = oC (fd (fun j => bS I2 V (i + 1 + j)) (bS I2 V i s) k) ∧ FrV 13 N q.2)) := fun es => by
            rw [es]
            refine wpO_ret (wpO_pk (wpO_pk ?_))
            rw [nI_1]
            exact wpO_mono (ih (i + 1) m N2 (some i) (V i) (by omega) (by omega) e2 (fun b hb => by cases hb; exact ⟨hin, rfl⟩)) (fun q h => ⟨h.1, f1.trans h.2⟩)
          cases s with
          | none => exact wpO_tk (show oC none < 0 by decide) (take (by unfold bS; rw [if_pos i2]))
          | some b =>
            obtain ⟨hb, hx⟩ := hs b rfl
            subst hx
            refine wpO_fk (show ¬ nI b < 0 from nI_nneg (by omega)) ?_
            by_cases d2 : V b < V i
            · exact wpO_fk ((ile_nlt _ _).mpr d2) (take (by unfold bS; rw [if_pos i2]; show (if V b < V i then some i else some b) = _; rw [if_pos d2]))
            · have es : bS I2 V i (some b) = some b := by unfold bS; rw [if_pos i2]; show (if V b < V i then some i else some b) = _; rw [if_neg d2]
              rw [es]
              refine wpO_tk ((ilt_nle _ _).mp d2) (wpO_ret (wpO_pk (wpO_pk ?_)))
              rw [nI_1]
              exact wpO_mono (ih (i + 1) m N2 (some b) (V b) (by omega) (by omega) e2 (fun c hc => by cases hc; exact ⟨hb, rfl⟩)) (fun q h => ⟨h.1, f1.trans h.2⟩)
      · rw [if_pos c2]
        have es : bS I2 V i s = s := by unfold bS; rw [if_neg (by rw [eI2, eI]; simp [c1])]
        rw [es]
        refine wpO_bk (wpO_tk rfl (wpO_ret (wpO_pk (wpO_pk ?_))))
        rw [nI_1]
        exact ih (i + 1) m N s x (by omega) (by omega) e hs
  unfold fX11_bestThing
  refine wpO_bk (wpO_mono (key n 0 4000 N none 0 (by omega) (by omega) e (fun b hb => by cases hb)) ?_)
  rintro ⟨y, N2⟩ ⟨h1, f1⟩
  refine wpO_pk (wpO_ret ⟨?_, f1⟩)
  show y = _
  have h1 : y = oC (fd (fun j => bS I2 V (0 + j)) none n) := h1
  rw [h1, show fd (fun j => bS I2 V (0 + j)) none n = fd (bS I2 V) none n from fd_congr (fun i z _ => by rw [Nat.zero_add]), ← hI2, bF_eq]
  unfold gO
  rw [hV, hI]
theorem m_got (hS : RS B n nd) (hx : zSH a = .inr (0, 26)) (hx2 : a ≠ 36 ∧ a ≠ 46) (hA : AR B ar S v) (e : ME B N a ar) : wpO (fX12_gotBy a told N) (fun q => q.1 = oM (gO B n a v told) ∧ FrQ N q.2) := by
  have h8 := hS.1.1
  have hlen : zLen a = 26 := zLen_of hx
  generalize hV : (fun t => v (sE B a told t)) = V
  have eV : ∀ t, v (sE B a told t) = V t := fun t => by rw [← hV]
  generalize hI : (fun t => decide (B.1 a t = 2)) = I
  have eI : ∀ t, I t = decide (B.1 a t = 2) := fun t => by rw [← hI]
  have key : ∀ k i m N s x, i + k = n → k < m → ME B N a ar → (∀ b, s = some b → b < n ∧ x = V b) → wpO (fX12_gotBy_L9 a told m (oM s) x (nI i) N) (fun q => q.1 = oM (fd (fun j => bS I V (i + j)) s k) ∧ (∀ b, fd (fun j => bS I V (i + j)) s k = some b → b < n ∧ q.2.1 = V b) ∧ FrQ N q.2.2) := by
    intro k
    induction k with
    | zero =>
      intro i m N s x hi hm e hs
      obtain ⟨m, rfl⟩ : ∃ q, m = q + 1 := ⟨m - 1, by omega⟩
      rw [fX12_gotBy_L9.eq_2]
      have : i = n := by omega
      subst this
      exact wpO_tk (by rw [e.1, hS.2.1.2.1]; exact leT (Nat.le_refl i) (by omega)) (wpO_ret ⟨rfl, hs, FrQ.refl N⟩)
    | succ k ih =>
      intro i m N s x hi hm e hs
      obtain ⟨m, rfl⟩ : ∃ q, m = q + 1 := ⟨m - 1, by omega⟩
      have hin : i < n := by omega
      rw [fX12_gotBy_L9.eq_2]
      refine wpO_fk (by rw [e.1, hS.2.1.2.1]; exact leF hin (by omega)) (wpO_tk (by rw [hlen]; exact hx) (wpO_tk (by rw [hlen]; exact zinT (show i < 26 by omega) (by omega)) ?_))
      have ef : fd (fun j => bS I V (i + j)) s (k + 1) = fd (fun j => bS I V (i + 1 + j)) (bS I V i s) k := by
        have gen : ∀ k, fd (fun j => bS I V (i + j)) s (k + 1) = fd (fun j => bS I V (i + 1 + j)) (bS I V i s) k := by
          intro k
          induction k with
          | zero => rfl
          | succ k ih2 =>
            show bS I V (i + (k + 1)) (fd (fun j => bS I V (i + j)) s (k + 1)) = bS I V (i + 1 + k) (fd (fun j => bS I V (i + 1 + j)) (bS I V i s) k)
            rw [ih2, show i + (k + 1) = i + 1 + k by omega]
        exact gen k
      rw [ef, nI_clamp (show i < 2 ^ 31 by omega), e.2.2.2.1]
      by_cases c1 : B.1 a i = 2
      · have iI : I i = true := by rw [eI]; exact decide_eq_true c1
        refine wpO_bk (wpO_tk c1 (wpO_bk (wpO_mono (m_mt hx hx2 hA (show i < 8 by omega) e) ?_)))
        rintro ⟨y, N2⟩ ⟨h1, f1⟩
        dsimp only at h1 f1
        rw [eV] at h1
        subst h1
        refine wpO_pk ?_
        have e2 := e.fr hx2 hA.2.1 f1
        simp only [zj]
        have take : bS I V i s = some i → wpO (some (nI i, V i, N2)) (fun r => wpO (zp r fun x3 q => zp q fun x4 M => fX12_gotBy_L9 a told m x3 x4 (nI i + 1) M) (fun q => q.1 = oM (fd (fun j => bS I V (i + 1 + j)) (bS I V i s) k) ∧ (∀ b, fd (fun j => bS I V (i + 1 + j)) (bS I V i s) k = some b → b < n ∧ q.2.1 = V b) ∧ FrQ N q.2.2)) := fun es => by
          rw [es]
          refine wpO_ret (wpO_pk (wpO_pk ?_))
          rw [nI_1]
          exact wpO_mono (ih (i + 1) m N2 (some i) (V i) (by omega) (by omega) e2 (fun b hb => by cases hb; exact ⟨hin, rfl⟩)) (fun q h => ⟨h.1, h.2.1, f1.trans h.2.2⟩)
        cases s with
        | none => exact wpO_tk (show oM none = -2 from rfl) (take (by unfold bS; rw [if_pos iI]))
        | some b =>
          obtain ⟨hb, hx⟩ := hs b rfl
          subst hx
          refine wpO_fk (show ¬ nI b = -2 from fun z => by
            have q : ¬ nI b < 0 := nI_nneg (by omega)
            rw [z] at q
            exact q (by decide)) ?_
          by_cases d2 : V b < V i
          · exact wpO_tk d2 (take (by unfold bS; rw [if_pos iI]; show (if V b < V i then some i else some b) = _; rw [if_pos d2]))
          · have es : bS I V i (some b) = some b := by unfold bS; rw [if_pos iI]; show (if V b < V i then some i else some b) = _; rw [if_neg d2]
            rw [es]
            refine wpO_fk d2 (wpO_ret (wpO_pk (wpO_pk ?_)))
            rw [nI_1]
            exact wpO_mono (ih (i + 1) m N2 (some b) (V b) (by omega) (by omega) e2 (fun c hc => by cases hc; exact ⟨hb, rfl⟩)) (fun q h => ⟨h.1, h.2.1, f1.trans h.2.2⟩)
      · have es : bS I V i s = s := by unfold bS; rw [if_neg (by rw [eI]; simp [c1])]
        rw [es]
        refine wpO_bk (wpO_fk c1 (wpO_ret (wpO_pk (wpO_pk ?_))))
        rw [nI_1]
        exact ih (i + 1) m N s x (by omega) (by omega) e hs
  unfold fX12_gotBy
  refine wpO_bk (wpO_mono (key n 0 4000 N none 0 (by omega) (by omega) e (fun b hb => by cases hb)) ?_)
  rw [show fd (fun j => bS I V (0 + j)) none n = fd (bS I V) none n from fd_congr (fun i z _ => by rw [Nat.zero_add])]
  have eg : gO B n a v told = bF I V (B.1 36 4) (fd (bS I V) none n) := by unfold gO; rw [hV, hI]
  rw [eg]
  generalize fd (bS I V) none n = s
  rintro ⟨y, z, N2⟩ ⟨h1, h2, f1⟩
  dsimp only at h1 h2 f1
  subst h1
  have e2 := e.fr hx2 hA.2.1 f1
  refine wpO_pk (wpO_pk ?_)
  cases s with
  | none => exact wpO_tk rfl (wpO_ret ⟨rfl, f1⟩)
  | some b =>
    obtain ⟨hb, hz⟩ := h2 b rfl
    subst hz
    refine wpO_fk (show ¬ nI b = -2 from fun z => by
      have q : ¬ nI b < 0 := nI_nneg (by omega)
      rw [z] at q
      exact q (by decide)) ?_
    rw [e2.2.2.2.2.2.2.1]
    unfold bF
    dsimp only
    by_cases d : V b < B.1 36 4
    · rw [if_pos d, if_pos d]; exact wpO_ret ⟨rfl, f1⟩
    · rw [if_neg d, if_neg d]; exact wpO_ret ⟨rfl, f1⟩
end MT
