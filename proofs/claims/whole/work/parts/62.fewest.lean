/-! fewest, ways, and how many get something -/
def SE (B N : zM) : Prop := N.1 5 = B.1 5 ∧ N.1 6 = B.1 6 ∧ N.1 7 = B.1 7 ∧ N.1 60 = B.1 60 ∧ N.1 63 = B.1 63 ∧ N.1 0 18 = B.1 0 18
theorem SE.fr {x1 : Nat} {B N N2 : zM} (h : SE B N) (hx : x1 = 13 ∨ x1 = 17) (f : FrS x1 N N2) : SE B N2 := by
  obtain ⟨a, b, c, d, e, g⟩ := h
  have k : ∀ k, k < 15 ∨ 33 < k → N2.1 k = N.1 k := fun k hk => f.1 k (by omega) (by omega) (by omega) (by omega) (by omega)
  exact ⟨(k 5 (by omega)).trans a, (k 6 (by omega)).trans b, (k 7 (by omega)).trans c, (k 60 (by omega)).trans d, (k 63 (by omega)).trans e, by rw [k 0 (by omega)]; exact g⟩
theorem p_clear (x1 : Nat) (M : zM) : ∃ N, fX8_clear M = some N ∧ FrS x1 M N ∧ ∀ m, m < 256 → N.1 31 m = -1 := by
  have key : ∃ N, fX8_clear_L2 4000 0 M = some N ∧ FrS x1 M N ∧ ∀ m, m < 256 → N.1 31 m = -1 := by
    refine zforI (fun n (s : Int32 × zM) => fX8_clear_L2 n s.1 s.2) (fun i s => s.1 = nI i ∧ FrS x1 M s.2 ∧ ∀ m, m < i → s.2.1 31 m = -1) 256 (fun r => ∃ N, r = some N ∧ FrS x1 M N ∧ ∀ m, m < 256 → N.1 31 m = -1) ?_ ?_ 256 0 4000 (0, M) rfl (by omega) ⟨rfl, FrS.refl x1 M, fun m hm => absurd hm (by omega)⟩
    · rintro n i ⟨y, N⟩ hi ⟨q1, q2, q3⟩
      dsimp only at q1 q2 q3 ⊢
      subst q1
      refine ⟨(nI (i + 1), zSI N 31 i (-1)), ⟨rfl, q2.trans (FrS.SI _ _ _ (by omega)), fun m hm => ?_⟩, ?_⟩
      · show (zSI N 31 i (-1)).1 31 m = _
        rw [gSI]
        by_cases c : m = i
        · rw [if_pos ⟨rfl, c⟩]
        · rw [if_neg (fun z => c z.2)]; exact q3 m (by omega)
      · simp only [fX8_clear_L2, if_neg (show ¬ 256 ≤ nI i from leF (a := 256) hi (by omega)), if_pos (zinT hi (show i < 2 ^ 31 by omega)), nI_clamp (show i < 2 ^ 31 by omega), zlet, nI_1]
    · rintro n ⟨y, N⟩ ⟨q1, q2, q3⟩
      dsimp only at q1 q2 q3 ⊢
      subst q1
      exact ⟨N, by simp only [fX8_clear_L2, if_pos (show 256 ≤ nI 256 from leT (a := 256) (Nat.le_refl 256) (by omega))], q2, q3⟩
  obtain ⟨N, e, r⟩ := key
  exact ⟨N, by unfold fX8_clear; rw [e]; rfl, r⟩
section SVY
variable {x1 : Nat} {l : List Int32} {v : (Nat → Int32) → Int32} {B N : zM} {n nd : Nat}
theorem p_survey (hx : x1 = 13 ∨ x1 = 17) (hv : ∀ e, rn e l [] = [v e]) (hS : RS B n nd) (hW : RW B n 60 37 0) (hq : B.1 0 18 = B.1 36 4) (hP : PartsAre N x1 l) (e : SE B N) : ∃ Z, fX11_surveyBy x1 N = some Z ∧ FrS x1 N Z ∧ ∀ m, m < 256 → Z.1 31 m = oC (gO B n 37 v (nI m)) := by
  have h8 := hS.1.1
  obtain ⟨N0, e0, f0, c0⟩ := p_clear x1 N
  generalize hV : (fun m t => v (sE B 37 (nI m) t)) = V
  have eV : ∀ m t, V m t = v (sE B 37 (nI m) t) := fun m t => by rw [← hV]
  generalize hO : (fun i m => fd (bS (fun t => decide (B.1 37 t = 2) && !decide (V m t < B.1 36 4)) (V m)) none i) = O
  have eO : ∀ i m, O i m = fd (bS (fun t => decide (B.1 37 t = 2) && !decide (V m t < B.1 36 4)) (V m)) none i := fun i m => by rw [← hO]
  have key : ∃ Z, fX11_surveyBy_L9 x1 4000 0 N0 = some Z ∧ FrS x1 N Z ∧ ∀ m, m < 256 → SvS Z (O n) V m := by
    refine zforI (fun k (s : Int32 × zM) => fX11_surveyBy_L9 x1 k s.1 s.2) (fun i s => s.1 = nI i ∧ FrS x1 N s.2 ∧ ∀ m, m < 256 → SvS s.2 (O i) V m) n (fun r => ∃ Z, r = some Z ∧ FrS x1 N Z ∧ ∀ m, m < 256 → SvS Z (O n) V m) ?_ ?_ n 0 4000 (0, N0) (by omega) (by omega) ⟨rfl, f0, fun m hm => ⟨by rw [eO]; exact c0 m hm, fun b hb => by rw [eO] at hb; cases hb⟩⟩
    · rintro k i ⟨y, M⟩ hi ⟨q1, q2, q3⟩
      dsimp only at q1 q2 q3 ⊢
      subst q1
      have eM := e.fr hx q2
      have i8 : i < 8 := by omega
      have i31 : i < 2 ^ 31 := by omega
      have e53 : M.1 5 3 = nI n := by rw [eM.1]; exact hS.2.1.1
      rcases RWt_in (RW_t hW hi) with ⟨a1, a2, a3, -⟩ | ⟨a1, a2⟩
      · obtain ⟨s1, g, hg, s2⟩ := hS.2.2.1 i hi
        have h6 : M.1 6 i = nI g := by rw [eM.2.1, s1, s2]
        have h7 : M.1 7 i = B.1 39 i := by rw [eM.2.2.1]; exact (hS.2.2.2.1 i hi).1
        have h63 : M.1 63 i = B.1 37 (16 + i) := by rw [eM.2.2.2.2.1, a3]
        have wd : fX10_weekday 60 M = some (zrem (B.1 37 24) 7) := by
          unfold fX10_weekday
          rw [if_pos (show zSH 60 = .inl 10 from rfl), eM.2.2.2.1]
          have := hW.2.2.1
          rw [Nat.zero_add] at this
          rw [this]
        obtain ⟨M2, w1, w2, w3, w4⟩ := p_weigh hx hv (w := B.1 39 i) (d := B.1 37 (16 + i)) (k := zrem (B.1 37 24) 7) hg (hP.fr q2 hx)
        have q18 : M2.1 0 18 = B.1 36 4 := by rw [(eM.fr hx w2).2.2.2.2.2, hq]
        obtain ⟨M3, o1, o2, o3, o4⟩ := p_offer (v := v) (q := B.1 36 4) (O := O i) (V := V) hg i8 (fun m hm => by rw [eV, sE_wE hm hg s2, if_pos a1]) w4 (fun m hm => by
          have := q3 m hm
          unfold SvS at this ⊢
          rw [(w3 m).1, (w3 m).2]
          exact this)
        refine ⟨(nI (i + 1), M3), ⟨rfl, (q2.trans w2).trans ⟨fun k _ _ a b _ => o2 k a b, o3⟩, fun m hm => ?_⟩, ?_⟩
        · have := o4 m hm
          unfold SvS at this ⊢
          have eb : bS (fun _ => !decide (V m i < B.1 36 4)) (fun b => V m b) i (O i m) = O (i + 1) m := by
            rw [eO (i + 1) m]
            show _ = bS (fun t => decide (B.1 37 t = 2) && !decide (V m t < B.1 36 4)) (V m) i (fd _ none i)
            rw [← eO i m]
            unfold bS
            simp [a1]
          dsimp only at this
          rw [eb] at this
          exact this
        · simp only [fX11_surveyBy_L9, e53, if_neg (leF hi (by omega)), pX10_isIn (w := 60) (M := M) rfl i8, Option.bind_some]
          rw [show (60 : Nat) + 3 = 63 from rfl, h63, ← a3, if_neg a2, if_neg (show ¬ (1 : Int32) = 0 by decide), if_pos (zinT i8 i31), nI_clamp i31]
          simp only [zlet, h6, wd, Option.bind_some, h7, h63, w1, q18, o1, nI_1]
      · refine ⟨(nI (i + 1), M), ⟨rfl, q2, fun m hm => ?_⟩, ?_⟩
        · have := q3 m hm
          unfold SvS at this ⊢
          have eb : O (i + 1) m = O i m := by
            rw [eO (i + 1) m]
            show bS (fun t => decide (B.1 37 t = 2) && !decide (V m t < B.1 36 4)) (V m) i (fd _ none i) = _
            rw [← eO i m]
            unfold bS
            simp [a1]
          rw [eb]
          exact this
        · simp only [fX11_surveyBy_L9, e53, if_neg (leF hi (by omega)), pX10_isIn (w := 60) (M := M) rfl i8, Option.bind_some]
          rw [show (60 : Nat) + 3 = 63 from rfl, eM.2.2.2.2.1, if_pos a2, if_pos rfl]
          simp only [Option.bind_some, nI_1]
    · rintro k ⟨y, M⟩ ⟨q1, q2, q3⟩
      dsimp only at q1 q2 q3 ⊢
      subst q1
      have eM := e.fr hx q2
      have e53 : M.1 5 3 = nI n := by rw [eM.1]; exact hS.2.1.1
      exact ⟨M, by simp only [fX11_surveyBy_L9, e53, if_pos (leT (Nat.le_refl n) (by omega))], q2, q3⟩
  obtain ⟨Z, e1, f1, s1⟩ := key
  refine ⟨Z, ?_, f1, fun m hm => ?_⟩
  · unfold fX11_surveyBy
    rw [e0]
    simp only [Option.bind_some, e1]
  · rw [(s1 m hm).1, eO, bF_eq]
    unfold gO
    have : V m = fun t => v (sE B 37 (nI m) t) := funext (fun t => eV m t)
    rw [this]
theorem FrS.toC {M Z : zM} (f : FrS x1 M Z) (hx : x1 = 13 ∨ x1 = 17) : FrC M Z := by
  refine ⟨fun k a b => f.1 k (by omega) (by omega) (by omega) (by omega) (by omega), fun k _ => by rw [f.2], by rw [f.2], fun k hk => ?_, by rw [f.1 0 (by omega) (by omega) (by omega) (by omega) (by omega)], by rw [f.1 0 (by omega) (by omega) (by omega) (by omega) (by omega)]⟩
  have nk : ¬ (k = 15 ∨ k = 16 ∨ k = 19 ∨ k = 20 ∨ k = 31 ∨ k = 32 ∨ k = 33) := by rintro (rfl | rfl | rfl | rfl | rfl | rfl | rfl) <;> cases hk
  exact f.1 k (by omega) (by omega) (by omega) (by omega) (by omega)
theorem FrS.row {M Z : zM} (f : FrS x1 M Z) (hx : x1 = 13 ∨ x1 = 17) : Z.1 3 = M.1 3 ∧ Z.2.1 4 = M.2.1 4 := ⟨f.1 3 (by omega) (by omega) (by omega) (by omega) (by omega), by rw [f.2]⟩
end SVY
theorem p_howMany (x : Int32) (Z : zM) : fX8_howManyGet x Z = some (nI (ct (fun m => decide (Z.1 31 m = x)) 256)) := by
  unfold fX8_howManyGet
  rw [show fX8_howManyGet_L4 x Z 4000 0 0 = some (nI (ct (fun m => decide (Z.1 31 m = x)) 256)) from zfor (fun n (s : Int32 × Int32) => fX8_howManyGet_L4 x Z n s.1 s.2) (fun i => (nI (ct (fun m => decide (Z.1 31 m = x)) i), nI i)) 256 _
    (fun n i hi => by
      simp only [fX8_howManyGet_L4, if_neg (show ¬ 256 ≤ nI i from leF (a := 256) hi (by omega)), if_pos (zinT hi (show i < 2 ^ 31 by omega)), nI_clamp (show i < 2 ^ 31 by omega), zlet, nI_1, ct]
      by_cases c : Z.1 31 i = x <;> simp [c])
    (fun n => by simp only [fX8_howManyGet_L4, if_pos (show 256 ≤ nI 256 from leT (a := 256) (Nat.le_refl 256) (by omega))])
    256 0 4000 rfl (by omega)]
  rfl
theorem oC_m1 {o : Option Nat} (h : ∀ b, o = some b → b < 8) : oC o = -1 ↔ o = none := by
  cases o with
  | none => exact ⟨fun _ => rfl, fun _ => rfl⟩
  | some b => exact ⟨fun z => absurd z.symm (nI_ne_m1 (by have := h b rfl; omega)), fun z => by cases z⟩
theorem oC_t {o : Option Nat} {t : Nat} (ht : t < 8) (h : ∀ b, o = some b → b < 8) : oC o = nI t ↔ o = some t := by
  cases o with
  | none => exact ⟨fun z => absurd z (nI_ne_m1 (by omega)), fun z => by cases z⟩
  | some b =>
    have := h b rfl
    show nI b = nI t ↔ _
    rw [nI_eq (by omega) (by omega)]
    exact ⟨fun z => by rw [z], fun z => by cases z; rfl⟩
theorem oM_t {o : Option Nat} {t : Nat} (ht : t < 8) (h : ∀ b, o = some b → b < 8) : oM o = nI t ↔ o = some t := by
  cases o with
  | none => exact ⟨fun z => absurd (show nI t < 0 by rw [← z]; decide) (nI_nneg (by omega)), fun z => by cases z⟩
  | some b =>
    have := h b rfl
    show nI b = nI t ↔ _
    rw [nI_eq (by omega) (by omega)]
    exact ⟨fun z => by rw [z], fun z => by cases z; rfl⟩
theorem oM_neg {o : Option Nat} (h : ∀ b, o = some b → b < 8) : oM o < 0 ↔ o = none := by
  cases o with
  | none => exact ⟨fun _ => rfl, fun _ => by decide⟩
  | some b => exact ⟨fun z => absurd z (nI_nneg (by have := h b rfl; omega)), fun z => by cases z⟩
/-! fewest -/
def fwS (O : Nat → Option Nat) (t m : Nat) (s : Option Nat) : Option Nat := match s with
  | none => if O m = some t then some m else none
  | some b => if pcN m < pcN b ∧ O m = some t then some m else some b
def fwC : Option Nat → Int32 × Int32
  | none => (-1, 9)
  | some b => (nI b, nI (pcN b))
def fwM : Option Nat → Int32
  | none => -1
  | some b => nI b
theorem fwS_P {O : Nat → Option Nat} {t i : Nat} {s : Option Nat} (hi : i < 256) (h : ∀ b, s = some b → b < 256) : ∀ b, fwS O t i s = some b → b < 256 := by
  intro b hb
  unfold fwS at hb
  cases s with
  | none =>
    dsimp only at hb
    split at hb
    · cases hb; exact hi
    · cases hb
  | some c =>
    dsimp only at hb
    split at hb
    · cases hb; exact hi
    · cases hb; exact h b rfl
theorem c_fewest {Z : zM} {O : Nat → Option Nat} {t : Nat} (ht : t < 8) (hO : ∀ m, m < 256 → Z.1 31 m = oC (O m) ∧ ∀ b, O m = some b → b < 8) : fX11_fewest_L26 (nI t) Z 4000 (-1) 9 0 = some (fwC (fd (fwS O t) none 256)) := by
  refine zfdP (fun n (s : Option Nat) i => fX11_fewest_L26 (nI t) Z n (fwC s).1 (fwC s).2 i) (fwS O t) (fun s => some (fwC s)) (fun _ s => ∀ b, s = some b → b < 256) none 256 (by omega) (fun b hb => by cases hb) (fun i s hi h => fwS_P hi h) ?_ ?_
  · intro n i s hi hP
    have i31 : i < 2 ^ 31 := by omega
    have p8 := pcN_le i
    obtain ⟨o1, o2⟩ := hO i hi
    have ot := oC_t ht o2
    simp only [fX11_fewest_L26, if_neg (show ¬ 256 ≤ nI i from leF (a := 256) hi (by omega)), zlet, bc_nI i hi, if_pos (zinT hi i31), nI_clamp i31, o1, nI_1]
    cases s with
    | none =>
      rw [if_neg (show ¬ (fwC none).2 ≤ nI (pcN i) from leF (a := 9) (by omega) (by omega))]
      by_cases c : O i = some t
      · rw [if_pos (ot.mpr c)]
        simp only [Option.bind_some, zp]
        unfold fwS
        simp only [c, if_true, fwC]
      · rw [if_neg (fun z => c (ot.mp z))]
        simp only [Option.bind_some, zp]
        unfold fwS
        simp only [c, if_false]
    | some b =>
      have hb := hP b rfl
      have pb := pcN_le b
      by_cases c1 : pcN i < pcN b
      · rw [if_neg (show ¬ (fwC (some b)).2 ≤ nI (pcN i) from leF c1 (by omega))]
        by_cases c : O i = some t
        · rw [if_pos (ot.mpr c)]
          simp only [Option.bind_some, zp]
          unfold fwS
          simp only [c, c1, and_self, if_true, fwC]
        · rw [if_neg (fun z => c (ot.mp z))]
          simp only [Option.bind_some, zp]
          unfold fwS
          simp only [c, and_false, if_false]
      · rw [if_pos (show (fwC (some b)).2 ≤ nI (pcN i) from leT (by omega) (by omega))]
        simp only [Option.bind_some, zp]
        unfold fwS
        simp only [c1, false_and, if_false]
  · intro n s hP
    simp only [fX11_fewest_L26, if_pos (show 256 ≤ nI 256 from leT (a := 256) (Nat.le_refl 256) (by omega))]
section RFW
variable {B N : zM} {n nd S t ar : Nat} {v : (Nat → Int32) → Int32}
theorem gO_8 (hS : RS B n nd) (m : Int32) : ∀ b, gO B n 37 v m = some b → b < 8 := fun b hb => by
  have := (gO_P b hb).1
  have := hS.1.1
  omega
theorem m_fewest (hS : RS B n nd) (hA : AR B ar S v) (ht : t < 8) (e : ME B N 37 ar) : ∃ T, fX12_fewest_L19 (nI t) 4000 (-1) 0 N = some (fwM (fd (fwS (fun m => gO B n 37 v (nI m)) t) none 256), T) ∧ FrQ N T := by
  refine zforI (fun k (q : Int32 × Int32 × zM) => fX12_fewest_L19 (nI t) k q.1 q.2.1 q.2.2) (fun i q => q.1 = fwM (fd (fwS (fun m => gO B n 37 v (nI m)) t) none i) ∧ q.2.1 = nI i ∧ FrQ N q.2.2 ∧ ∀ b, fd (fwS (fun m => gO B n 37 v (nI m)) t) none i = some b → b < 256) 256 (fun o => ∃ T, o = some (fwM (fd (fwS (fun m => gO B n 37 v (nI m)) t) none 256), T) ∧ FrQ N T) ?_ ?_ 256 0 4000 (-1, 0, N) rfl (by omega) ⟨rfl, rfl, FrQ.refl N, fun b hb => by cases hb⟩
  · rintro k i ⟨a, b, N1⟩ hi ⟨e1, e2, f, hP⟩
    dsimp only at e1 e2 f hP ⊢
    subst e1 e2
    have eN := e.fr (by omega) hA.2.1 f
    obtain ⟨⟨y, N2⟩, q1, q2, q3⟩ := m_got (a := 37) (told := nI i) hS rfl (by omega) hA eN
    dsimp only at q2 q3
    subst q2
    have ot := oM_t (o := gO B n 37 v (nI i)) ht (gO_8 hS _)
    have hf : fd (fwS (fun m => gO B n 37 v (nI m)) t) none (i + 1) = fwS (fun m => gO B n 37 v (nI m)) t i (fd (fwS (fun m => gO B n 37 v (nI m)) t) none i) := rfl
    generalize fd (fwS (fun m => gO B n 37 v (nI m)) t) none i = s at hP hf
    have hP2 : ∀ b, fwS (fun m => gO B n 37 v (nI m)) t i s = some b → b < 256 := fwS_P hi hP
    have fin : ∀ T, FrQ N T → (if gO B n 37 v (nI i) = some t then T = N2 else True) → True := fun _ _ _ => trivial
    cases s with
    | none =>
      refine ⟨(fwM (fwS (fun m => gO B n 37 v (nI m)) t i none), nI (i + 1), N2), ⟨by rw [hf], rfl, f.trans q3, by rw [hf]; exact hP2⟩, ?_⟩
      simp only [fX12_fewest_L19, if_neg (show ¬ 256 ≤ nI i from leF (a := 256) hi (by omega)), fwM, if_true, q1, Option.bind_some, zp, nI_1]
      by_cases c : gO B n 37 v (nI i) = some t
      · rw [if_pos (ot.mpr c)]
        simp only [Option.bind_some, zp]
        unfold fwS
        simp only [c, if_true]
      · rw [if_neg (fun z => c (ot.mp z))]
        simp only [Option.bind_some, zp]
        unfold fwS
        simp only [c, if_false]
    | some b =>
      have hb := hP b rfl
      have pb := pcN_le b
      have nb : ¬ nI b = -1 := fun z => nI_ne_m1 (show b < 2 ^ 31 by omega) z.symm
      by_cases c1 : pcN i < pcN b
      · refine ⟨(fwM (fwS (fun m => gO B n 37 v (nI m)) t i (some b)), nI (i + 1), N2), ⟨by rw [hf], rfl, f.trans q3, by rw [hf]; exact hP2⟩, ?_⟩
        simp only [fX12_fewest_L19, if_neg (show ¬ 256 ≤ nI i from leF (a := 256) hi (by omega)), fwM, if_neg nb, bc_nI i hi, bc_nI b hb, if_pos (ltT c1 (show pcN b < 2 ^ 31 by omega)), q1, Option.bind_some, zp, nI_1]
        by_cases c : gO B n 37 v (nI i) = some t
        · rw [if_pos (ot.mpr c)]
          simp only [Option.bind_some, zp]
          unfold fwS
          simp only [c, c1, and_self, if_true]
        · rw [if_neg (fun z => c (ot.mp z))]
          simp only [Option.bind_some, zp]
          unfold fwS
          simp only [c, and_false, if_false]
      · refine ⟨(fwM (fwS (fun m => gO B n 37 v (nI m)) t i (some b)), nI (i + 1), N1), ⟨by rw [hf], rfl, f, by rw [hf]; exact hP2⟩, ?_⟩
        simp only [fX12_fewest_L19, if_neg (show ¬ 256 ≤ nI i from leF (a := 256) hi (by omega)), fwM, if_neg nb, bc_nI i hi, bc_nI b hb, if_neg (ltF (show pcN b ≤ pcN i by omega) (show pcN i < 2 ^ 31 by have := pcN_le i; omega)), Option.bind_some, zp, nI_1]
        unfold fwS
        simp only [c1, false_and, if_false]
  · rintro k ⟨a, b, N1⟩ ⟨e1, e2, f, hP⟩
    dsimp only at e1 e2 f ⊢
    exact ⟨N1, by rw [e1, e2]; simp only [fX12_fewest_L19, if_pos (show 256 ≤ nI 256 from leT (a := 256) (Nat.le_refl 256) (by omega))], f⟩
theorem m_ways (hS : RS B n nd) (hA : AR B ar S v) (ht : t < 8) (e : ME B N 37 ar) : ∃ T, fX12_ways_L22 (nI t) 4000 0 0 0 N = some (nI (ct (fun m => decide (gO B n 37 v (nI m) = some t)) 256), nI (ct (fun m => decide (gO B n 37 v (nI m) = none)) 256), T) ∧ FrQ N T := by
  refine zforI (fun k (q : Int32 × Int32 × Int32 × zM) => fX12_ways_L22 (nI t) k q.1 q.2.1 q.2.2.1 q.2.2.2) (fun i q => q.1 = nI (ct (fun m => decide (gO B n 37 v (nI m) = some t)) i) ∧ q.2.1 = nI (ct (fun m => decide (gO B n 37 v (nI m) = none)) i) ∧ q.2.2.1 = nI i ∧ FrQ N q.2.2.2) 256 (fun o => ∃ T, o = some (nI (ct (fun m => decide (gO B n 37 v (nI m) = some t)) 256), nI (ct (fun m => decide (gO B n 37 v (nI m) = none)) 256), T) ∧ FrQ N T) ?_ ?_ 256 0 4000 (0, 0, 0, N) rfl (by omega) ⟨rfl, rfl, rfl, FrQ.refl N⟩
  · rintro k i ⟨a, b, c, N1⟩ hi ⟨e1, e2, e3, f⟩
    dsimp only at e1 e2 e3 f ⊢
    subst e1 e2 e3
    have eN := e.fr (by omega) hA.2.1 f
    obtain ⟨⟨y, N2⟩, q1, q2, q3⟩ := m_got (a := 37) (told := nI i) hS rfl (by omega) hA eN
    dsimp only at q2 q3
    subst q2
    have ot := oM_t (o := gO B n 37 v (nI i)) ht (gO_8 hS _)
    have on := oM_neg (o := gO B n 37 v (nI i)) (gO_8 hS _)
    refine ⟨(nI (ct (fun m => decide (gO B n 37 v (nI m) = some t)) (i + 1)), nI (ct (fun m => decide (gO B n 37 v (nI m) = none)) (i + 1)), nI (i + 1), N2), ⟨rfl, rfl, rfl, f.trans q3⟩, ?_⟩
    simp only [fX12_ways_L22, if_neg (show ¬ 256 ≤ nI i from leF (a := 256) hi (by omega)), q1, Option.bind_some, zp, zlet, nI_1, ct]
    have a1 : (if oM (gO B n 37 v (nI i)) = nI t then (1 : Int32) else 0) = nI (if decide (gO B n 37 v (nI i) = some t) = true then 1 else 0) := by
      by_cases c : gO B n 37 v (nI i) = some t
      · rw [if_pos (ot.mpr c), if_pos (decide_eq_true c)]; rfl
      · rw [if_neg (fun z => c (ot.mp z)), if_neg (by simp [c])]; rfl
    have a2 : (if 0 ≤ oM (gO B n 37 v (nI i)) then (0 : Int32) else 1) = nI (if decide (gO B n 37 v (nI i) = none) = true then 1 else 0) := by
      by_cases c : gO B n 37 v (nI i) = none
      · rw [if_neg ((ile_nlt _ _).mpr (on.mpr c)), if_pos (decide_eq_true c)]; rfl
      · rw [if_pos ((ilt_nle _ _).mp (fun z => c (on.mp z))), if_neg (by simp [c])]; rfl
    rw [a1, a2, nI_add, nI_add]
  · rintro k ⟨a, b, c, N1⟩ ⟨e1, e2, e3, f⟩
    dsimp only at e1 e2 e3 f ⊢
    subst e1 e2 e3
    exact ⟨N1, by simp only [fX12_ways_L22, if_pos (show 256 ≤ nI 256 from leT (a := 256) (Nat.le_refl 256) (by omega))], f⟩
theorem m_getting (hS : RS B n nd) (hA : AR B ar S v) (e : ME B N 37 ar) : ∃ T, fX12_getting N = some (nI (ct (fun m => !decide (gO B n 37 v (nI m) = none)) 256), T) ∧ FrQ N T := by
  have key : ∃ T, fX12_getting_L4 4000 0 0 N = some (nI (ct (fun m => !decide (gO B n 37 v (nI m) = none)) 256), T) ∧ FrQ N T := by
    refine zforI (fun k (q : Int32 × Int32 × zM) => fX12_getting_L4 k q.1 q.2.1 q.2.2) (fun i q => q.1 = nI (ct (fun m => !decide (gO B n 37 v (nI m) = none)) i) ∧ q.2.1 = nI i ∧ FrQ N q.2.2) 256 (fun o => ∃ T, o = some (nI (ct (fun m => !decide (gO B n 37 v (nI m) = none)) 256), T) ∧ FrQ N T) ?_ ?_ 256 0 4000 (0, 0, N) rfl (by omega) ⟨rfl, rfl, FrQ.refl N⟩
    · rintro k i ⟨a, b, N1⟩ hi ⟨e1, e2, f⟩
      dsimp only at e1 e2 f ⊢
      subst e1 e2
      have eN := e.fr (by omega) hA.2.1 f
      obtain ⟨⟨y, N2⟩, q1, q2, q3⟩ := m_got (a := 37) (told := nI i) hS rfl (by omega) hA eN
      dsimp only at q2 q3
      subst q2
      have on := oM_neg (o := gO B n 37 v (nI i)) (gO_8 hS _)
      refine ⟨(nI (ct (fun m => !decide (gO B n 37 v (nI m) = none)) (i + 1)), nI (i + 1), N2), ⟨rfl, rfl, f.trans q3⟩, ?_⟩
      simp only [fX12_getting_L4, if_neg (show ¬ 256 ≤ nI i from leF (a := 256) hi (by omega)), q1, Option.bind_some, zp, zlet, nI_1, ct]
      have a2 : (if oM (gO B n 37 v (nI i)) < 0 then (0 : Int32) else 1) = nI (if (!decide (gO B n 37 v (nI i) = none)) = true then 1 else 0) := by
        by_cases c : gO B n 37 v (nI i) = none
        · rw [if_pos (on.mpr c), if_neg (by simp [c])]; rfl
        · rw [if_neg (fun z => c (on.mp z)), if_pos (by simp [c])]; rfl
      rw [a2, nI_add]
    · rintro k ⟨a, b, N1⟩ ⟨e1, e2, f⟩
      dsimp only at e1 e2 f ⊢
      subst e1 e2
      exact ⟨N1, by simp only [fX12_getting_L4, if_pos (show 256 ≤ nI 256 from leT (a := 256) (Nat.le_refl 256) (by omega))], f⟩
  obtain ⟨T, e1, f⟩ := key
  exact ⟨T, by unfold fX12_getting; rw [e1]; rfl, f⟩
end RFW
theorem SE.refl (B : zM) : SE B B := ⟨rfl, rfl, rfl, rfl, rfl, rfl⟩
theorem op_fewest {M : zM} {n nd : Nat} (hS : RS M n nd) (hW : RW M n 60 37 0) (hC : RC M) (hU : RU M) (hO : RO M) (x : Int32) : OpQ (fX11_fewest x) (fX12_fewest x) M := by
  obtain ⟨l, v, S, hR⟩ := hU
  have hA : AR M 44 S v := ⟨hC.2.2.2.2.1, Or.inl rfl, hR.2.2.1, hR.2.2.2⟩
  have h8 := hS.1.1
  rcases split_ix x (n := n) (by omega) with hx | ⟨t, ht, rfl⟩
  · refine opR (r := -1) hO ?_ (fun N f => ?_)
    · unfold fX11_fewest
      exact wpO_tk (isThingC0 hS.2.1.1 (by omega) hx) (wpO_ret ⟨rfl, FrC.refl M, rfl, rfl⟩)
    · unfold fX12_fewest
      exact wM_thrown (fun N0 f0 a1 a2 _ => wpO_tk (isThingM0 (n := n) (by rw [((E12.ofC f).fr f0).2.1 1 rfl]; exact hS.2.1.2.1) (by omega) hx) (wpO_ret ⟨rfl, f0, a1, by rw [a2]⟩))
  · have t8 : t < 8 := by omega
    have c1 : ¬ fX11_isThing (nI t) M = 0 := by rw [isThingC1 hS.2.1.1 (by omega) ht]; decide
    obtain ⟨Z, e1, f1, g1⟩ := p_survey (x1 := 13) (N := M) (Or.inl rfl) hR.2.1 hS hW hC.2.2.1 hR.1 (SE.refl M)
    have e2 := c_fewest (Z := Z) (O := fun m => gO M n 37 v (nI m)) t8 (fun m hm => ⟨g1 m hm, gO_8 hS _⟩)
    have mF : ∀ N, ME M N 37 44 → _ := fun N e => m_fewest (N := N) (t := t) hS hA t8 e
    have hP : ∀ b, fd (fwS (fun m => gO M n 37 v (nI m)) t) none 256 = some b → b < 256 := fd_inv (f := fwS (fun m => gO M n 37 v (nI m)) t) (s := none) (fun _ s => ∀ b, s = some b → b < 256) (fun b hb => by cases hb) (n := 256) (fun i s hi h => fwS_P hi h)
    generalize fd (fwS (fun m => gO M n 37 v (nI m)) t) none 256 = A at e2 mF hP
    have m1 : ∀ N0, E12 M N0 → ¬ fX12_isThing (nI t) N0 = 0 := fun N0 e => by rw [isThingM1 (n := n) (by rw [e.2.1 1 rfl]; exact hS.2.1.2.1) (by omega) ht]; decide
    cases A with
    | none =>
      refine opR (r := -2) hO ?_ (fun N f => ?_)
      · unfold fX11_fewest
        exact wpO_fk c1 (wpO_ek e1 (wpO_ek e2 (wpO_pk (wpO_fk (by decide) (wpO_ret ⟨rfl, f1.toC (Or.inl rfl), f1.row (Or.inl rfl)⟩)))))
      · unfold fX12_fewest
        refine wM_thrown (fun N0 f0 a1 a2 _ => wpO_fk (m1 N0 ((E12.ofC f).fr f0)) ?_)
        obtain ⟨T, eT, fT⟩ := mF N0 (ME.ofE ((E12.ofC f).fr f0))
        exact wpO_ek eT (wpO_pk (wpO_tk rfl (wpO_ret ⟨rfl, f0.trans fT.toM, by rw [fT.row.1, a1], by rw [fT.row.2, a2]⟩)))
    | some b =>
      have hb := hP b rfl
      refine opQ (r := nI (pcN b)) (l := [(nI b).toInt64]) (Nat.le_of_ble_eq_true rfl) ?_ (fun N f => ?_)
      · unfold fX11_fewest
        refine wpO_fk c1 (wpO_ek e1 (wpO_ek e2 (wpO_pk (wpO_tk (nI_pos' (show b < 2 ^ 31 by omega)) (wC_begin (fun N1 f2 r1 => wC_tell r1 (Nat.le_of_ble_eq_true rfl) (fun N2 f3 r2 => wpO_ret ⟨rfl, ((f1.toC (Or.inl rfl)).trans f2).trans f3, r2⟩)))))))
      · unfold fX12_fewest
        refine wM_thrown (fun N0 f0 a1 a2 _ => wpO_fk (m1 N0 ((E12.ofC f).fr f0)) ?_)
        obtain ⟨T, eT, fT⟩ := mF N0 (ME.ofE ((E12.ofC f).fr f0))
        exact wpO_ek eT (wpO_pk (wpO_fk (fun z => nI_ne_m1 (show b < 2 ^ 31 by omega) z.symm) (wM_begin (fun N1 f2 r1 => wM_tell r1 (Nat.le_of_ble_eq_true rfl) (fun N2 f3 r2 => wpO_ret ⟨bc_nI b hb, ((f0.trans fT.toM).trans f2).trans f3, r2⟩)))))
theorem op_ways {M : zM} {n nd : Nat} (hS : RS M n nd) (hW : RW M n 60 37 0) (hC : RC M) (hU : RU M) (hO : RO M) (x : Int32) : OpQ (fX11_ways x) (fX12_ways x) M := by
  obtain ⟨l, v, S, hR⟩ := hU
  have hA : AR M 44 S v := ⟨hC.2.2.2.2.1, Or.inl rfl, hR.2.2.1, hR.2.2.2⟩
  have h8 := hS.1.1
  rcases split_ix x (n := n) (by omega) with hx | ⟨t, ht, rfl⟩
  · refine opR (r := -1) hO ?_ (fun N f => ?_)
    · unfold fX11_ways
      exact wpO_tk (isThingC0 hS.2.1.1 (by omega) hx) (wpO_ret ⟨rfl, FrC.refl M, rfl, rfl⟩)
    · unfold fX12_ways
      exact wM_thrown (fun N0 f0 a1 a2 _ => wpO_tk (isThingM0 (n := n) (by rw [((E12.ofC f).fr f0).2.1 1 rfl]; exact hS.2.1.2.1) (by omega) hx) (wpO_ret ⟨rfl, f0, a1, by rw [a2]⟩))
  · have t8 : t < 8 := by omega
    have c1 : ¬ fX11_isThing (nI t) M = 0 := by rw [isThingC1 hS.2.1.1 (by omega) ht]; decide
    obtain ⟨Z, e1, f1, g1⟩ := p_survey (x1 := 13) (N := M) (Or.inl rfl) hR.2.1 hS hW hC.2.2.1 hR.1 (SE.refl M)
    have n1 : ∀ Y : zM, Y.1 31 = Z.1 31 → ct (fun m => decide (Y.1 31 m = -1)) 256 = ct (fun m => decide (gO M n 37 v (nI m) = none)) 256 := fun Y hY => ct_congr (fun m hm => by rw [hY, g1 m hm, decide_eq_decide]; exact oC_m1 (gO_8 hS _))
    have n2 : ∀ Y : zM, Y.1 31 = Z.1 31 → ct (fun m => decide (Y.1 31 m = nI t)) 256 = ct (fun m => decide (gO M n 37 v (nI m) = some t)) 256 := fun Y hY => ct_congr (fun m hm => by rw [hY, g1 m hm, decide_eq_decide]; exact oC_t t8 (gO_8 hS _))
    refine opQ (r := nI (ct (fun m => decide (gO M n 37 v (nI m) = some t)) 256)) (l := [(nI (ct (fun m => decide (gO M n 37 v (nI m) = none)) 256)).toInt64]) (Nat.le_of_ble_eq_true rfl) ?_ (fun N f => ?_)
    · unfold fX11_ways
      refine wpO_fk c1 (wpO_ek e1 (vC_begin (fun N1 t1 r1 => wpO_ek (p_howMany (-1) N1) (vC_tell r1 (Nat.le_of_ble_eq_true rfl) (fun N2 t2 r2 => wpO_ek (p_howMany (nI t) N2) (wpO_ret ⟨?_, ?_, ?_⟩))))))
      · rw [n2 N2 (by rw [(t1.trans t2).1 31 (by omega)])]
      · have t := t1.trans t2
        exact (f1.toC (Or.inl rfl)).trans ⟨fun k a b => t.1 k (by omega), t.2.1, t.2.2, fun k hk => t.1 k (fun z => by rw [z] at hk; cases hk), by rw [t.1 0 (by omega)], by rw [t.1 0 (by omega)]⟩
      · rw [n1 N1 (t1.1 31 (by omega))] at r2
        exact r2
    · unfold fX12_ways
      refine wM_thrown (fun N0 f0 a1 a2 _ => wpO_fk (by rw [isThingM1 (n := n) (by rw [((E12.ofC f).fr f0).2.1 1 rfl]; exact hS.2.1.2.1) (by omega) ht]; decide) ?_)
      obtain ⟨T, eT, fT⟩ := m_ways (N := N0) (t := t) hS hA t8 (ME.ofE ((E12.ofC f).fr f0))
      exact wpO_ek eT (wpO_pk (wpO_pk (wM_begin (fun N1 f2 r1 => wM_tell r1 (Nat.le_of_ble_eq_true rfl) (fun N2 f3 r2 => wpO_ret ⟨rfl, ((f0.trans fT.toM).trans f2).trans f3, r2⟩)))))
