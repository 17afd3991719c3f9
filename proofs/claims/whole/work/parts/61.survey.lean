/-! the survey: which thing each description would get -/
theorem ct_split (p q : Nat → Bool) : ∀ n, ct p n = ct (fun i => p i && q i) n + ct (fun i => p i && !q i) n
  | 0 => rfl
  | n + 1 => by
    have ih := ct_split p q n
    simp only [ct]
    by_cases hp : p n = true <;> by_cases hq : q n = true <;> simp [hp, hq] <;> omega
theorem ct_and_le (p q : Nat → Bool) (n : Nat) : ct (fun i => p i && q i) n ≤ ct p n := by
  have := ct_split p q n
  omega
theorem pcN_and (a b : Nat) : pcN (a &&& b) = ct (fun i => a.testBit i && b.testBit i) 8 := by
  rw [pc_ct]
  exact ct_congr (fun i _ => by rw [Nat.testBit_and])
theorem bc_diff {a b : Nat} (ha : a < 256) : fJ6_bitCount_0f7a4 (nI a &&& (nI b ^^^ (-1))) = nI (pcN a - pcN (a &&& b)) := by
  have e : nI a &&& (nI b ^^^ (-1)) = bsA (fun i => a.testBit i && !b.testBit i) 8 := by
    apply b_ext
    intro i hi
    rw [b_and, b_not _ hi, bt_nI _ hi, bt_nI _ hi, bt_bsA (by omega) hi]
    by_cases c : i < 8
    · simp [c]
    · have : a.testBit i = false := Nat.testBit_lt_two_pow (Nat.lt_of_lt_of_le ha (Nat.pow_le_pow_right (n := 2) (i := 8) (by omega) (by omega)))
      simp [c, this]
  rw [e, bc_bs (by omega)]
  have h1 := ct_split a.testBit b.testBit 8
  rw [pcN_and, pc_ct a]
  congr 1
  omega
theorem pc_sub_le {a b : Nat} : pcN a - pcN (a &&& b) ≤ 8 - pcN b := by
  have h1 := ct_split a.testBit b.testBit 8
  have h2 := ct_split (fun i => !b.testBit i) a.testBit 8
  have h3 := ct_split (fun _ => true) b.testBit 8
  have h4 : ct (fun _ => true) 8 = 8 := by decide
  have h5 : ct (fun i => true && b.testBit i) 8 = ct b.testBit 8 := ct_congr (fun i _ => by simp)
  have h6 : ct (fun i => true && !b.testBit i) 8 = ct (fun i => !b.testBit i) 8 := ct_congr (fun i _ => by simp)
  have h7 : ct (fun i => !b.testBit i && a.testBit i) 8 = ct (fun i => a.testBit i && !b.testBit i) 8 := ct_congr (fun i _ => Bool.and_comm _ _)
  rw [pcN_and, pc_ct a, pc_ct b]
  omega
theorem pc_and_le {a b : Nat} : pcN (a &&& b) ≤ pcN b ∧ pcN (a &&& b) ≤ pcN a := by
  have h1 := ct_and_le a.testBit b.testBit 8
  have h2 := ct_and_le b.testBit a.testBit 8
  have h3 : ct (fun i => b.testBit i && a.testBit i) 8 = ct (fun i => a.testBit i && b.testBit i) 8 := ct_congr (fun i _ => Bool.and_comm _ _)
  rw [pcN_and, pc_ct a, pc_ct b]
  omega
theorem and_lt_256 {a b : Nat} (ha : a < 256) : a &&& b < 256 := Nat.lt_of_le_of_lt Nat.and_le_left ha
def wE (b h a : Nat) (w d k : Int32) : Nat → Int32
  | 0 => nI b
  | 1 => nI h
  | 2 => nI (a - b)
  | 3 => w
  | 4 => d
  | 5 => k
  | _ => 0
theorem sE_wE {B : zM} {a m t g : Nat} (hm : m < 256) (hg : g < 256) (e : B.1 38 t = nI g) : sE B a (nI m) t = wE (pcN (m &&& g)) (pcN m - pcN (m &&& g)) (pcN g) (B.1 39 t) (if B.1 a t = 2 then B.1 a (16 + t) else 0) (zrem (B.1 a 24) 7) := by
  funext k
  match k with
  | 0 => show fJ6_bitCount_0f7a4 (nI m &&& B.1 38 t) = nI (pcN (m &&& g)); rw [e, nI_and, bc_nI _ (and_lt_256 hm)]
  | 1 => show fJ6_bitCount_0f7a4 (nI m &&& (B.1 38 t ^^^ (-1))) = nI (pcN m - pcN (m &&& g)); rw [e, bc_diff hm]
  | 2 => show fJ6_bitCount_0f7a4 (B.1 38 t &&& (nI m ^^^ (-1))) = nI (pcN g - pcN (m &&& g)); rw [e, bc_diff hg, Nat.and_comm]
  | 3 => rfl
  | 4 => rfl
  | 5 => rfl
  | k + 6 => rfl
/-- what a survey by rule x1 leaves -/
def FrS (x1 : Nat) (M N : zM) : Prop := (∀ k, k ≠ x1 + 2 → k ≠ x1 + 3 → k ≠ 31 → k ≠ 32 → k ≠ 33 → N.1 k = M.1 k) ∧ N.2 = M.2
theorem FrS.refl (x1 : Nat) (M : zM) : FrS x1 M M := ⟨fun _ _ _ _ _ _ => rfl, rfl⟩
theorem FrS.trans {x1 : Nat} {A B C : zM} (h : FrS x1 A B) (k : FrS x1 B C) : FrS x1 A C := ⟨fun j a b c d e => (k.1 j a b c d e).trans (h.1 j a b c d e), k.2.trans h.2⟩
theorem FrS.ofV {x1 : Nat} {A B : zM} (h : FrV x1 A B) : FrS x1 A B := ⟨fun k a b _ _ _ => h.1 k a b, h.2⟩
theorem FrS.SI {x1 : Nat} (M : zM) {k : Nat} (j : Nat) (x : Int32) (h : k = 31 ∨ k = 32 ∨ k = 33) : FrS x1 M (zSI M k j x) := ⟨fun a _ _ c d e => zSI_other _ _ _ (by omega), rfl⟩
section SV
variable {x1 : Nat} {l : List Int32} {v : (Nat → Int32) → Int32}
theorem PartsAre.fr {M N : zM} (h : PartsAre M x1 l) (f : FrS x1 M N) (hx : x1 = 13 ∨ x1 = 17) : PartsAre N x1 l := ⟨h.1, by rw [f.1 x1 (by omega) (by omega) (by omega) (by omega) (by omega)]; exact h.2.1, fun j x hj => by rw [f.1 (x1 + 1) (by omega) (by omega) (by omega) (by omega) (by omega)]; exact h.2.2 j x hj⟩
theorem p_weighIn (hx : x1 = 13 ∨ x1 = 17) (hv : ∀ e, rn e l [] = [v e]) {w d k : Int32} {a b : Nat} (ha : a ≤ 8) (hb : b ≤ a) {M : zM} (hP : PartsAre M x1 l) : ∃ N, fX8_weigh_L19 x1 w d k (nI a) (nI b) 4000 0 M = some N ∧ FrS x1 M N ∧ (∀ j, N.1 31 j = M.1 31 j ∧ N.1 32 j = M.1 32 j) ∧ (∀ j, j < b * 9 → N.1 33 j = M.1 33 j) ∧ ∀ h, h ≤ 8 - a → N.1 33 (b * 9 + h) = v (wE b h a w d k) := by
  have hsh : zSH x1 = .inl 4 := by rcases hx with rfl | rfl <;> rfl
  refine zforI (fun m (s : Int32 × zM) => fX8_weigh_L19 x1 w d k (nI a) (nI b) m s.1 s.2) (fun i s => s.1 = nI i ∧ FrS x1 M s.2 ∧ (∀ j, s.2.1 31 j = M.1 31 j ∧ s.2.1 32 j = M.1 32 j) ∧ (∀ j, j < b * 9 → s.2.1 33 j = M.1 33 j) ∧ ∀ h, h < i → s.2.1 33 (b * 9 + h) = v (wE b h a w d k)) (9 - a) (fun r => ∃ N, r = some N ∧ FrS x1 M N ∧ (∀ j, N.1 31 j = M.1 31 j ∧ N.1 32 j = M.1 32 j) ∧ (∀ j, j < b * 9 → N.1 33 j = M.1 33 j) ∧ ∀ h, h ≤ 8 - a → N.1 33 (b * 9 + h) = v (wE b h a w d k)) ?_ ?_ (9 - a) 0 4000 (0, M) (by omega) (by omega) ⟨rfl, FrS.refl x1 M, fun _ => ⟨rfl, rfl⟩, fun _ _ => rfl, fun h hh => absurd hh (by omega)⟩
  · rintro m i ⟨y, N⟩ hi ⟨q1, q2, q3, q4, q5⟩
    dsimp only at q1 q2 q3 q4 q5 ⊢
    subst q1
    have e8 : (8 : Int32) - nI a = nI (8 - a) := pk_sub (a := 8) ha
    obtain ⟨⟨r, N2⟩, e1, e2, f2⟩ := c_value hx (hP.fr q2 hx) (nI b) (nI i) (nI a - nI b) w d k (e := wE b i a w d k) ⟨rfl, rfl, (pk_sub hb).symm, rfl, rfl, rfl⟩ (hv _)
    dsimp only at e2 f2
    subst e2
    refine ⟨(nI (i + 1), zSI N2 33 (b * 9 + i) (v (wE b i a w d k))), ⟨rfl, (q2.trans (FrS.ofV f2)).trans (FrS.SI _ _ _ (by omega)), fun j => ?_, fun j hj => ?_, fun h hh => ?_⟩, ?_⟩
    · refine ⟨?_, ?_⟩
      · show (zSI N2 33 _ _).1 31 j = _
        rw [zSI_other _ _ _ (by omega), f2.1 31 (by omega) (by omega)]; exact (q3 j).1
      · show (zSI N2 33 _ _).1 32 j = _
        rw [zSI_other _ _ _ (by omega), f2.1 32 (by omega) (by omega)]; exact (q3 j).2
    · show (zSI N2 33 (b * 9 + i) _).1 33 j = _
      rw [gSI, if_neg (by omega), f2.1 33 (by omega) (by omega)]; exact q4 j hj
    · show (zSI N2 33 (b * 9 + i) _).1 33 (b * 9 + h) = _
      rw [gSI]
      by_cases c : h = i
      · subst c; rw [if_pos ⟨rfl, rfl⟩]
      · rw [if_neg (by omega), f2.1 33 (by omega) (by omega)]; exact q5 h (by omega)
    · simp only [fX8_weigh_L19, e8, if_neg (show ¬ nI (8 - a) < nI i from ltF (by omega) (by omega)), hsh, if_true, e1, Option.bind_some, zp, show nI b * 9 = nI (b * 9) from pk_mul b 9, nI_add, if_pos (zinT (show b * 9 + i < 81 by omega) (by omega)), nI_clamp (show b * 9 + i < 2 ^ 31 by omega), zlet, nI_1]
  · rintro m ⟨y, N⟩ ⟨q1, q2, q3, q4, q5⟩
    dsimp only at q1 q2 q3 q4 q5 ⊢
    subst q1
    have e8 : (8 : Int32) - nI a = nI (8 - a) := pk_sub (a := 8) ha
    exact ⟨N, by simp only [fX8_weigh_L19, e8, if_pos (show nI (8 - a) < nI (9 - a) from ltT (by omega) (by omega))], q2, q3, q4, fun h hh => q5 h (by omega)⟩
theorem p_weigh (hx : x1 = 13 ∨ x1 = 17) (hv : ∀ e, rn e l [] = [v e]) {w d k : Int32} {g : Nat} (hg : g < 256) {M : zM} (hP : PartsAre M x1 l) : ∃ N, fX8_weigh x1 (nI g) w d k M = some N ∧ FrS x1 M N ∧ (∀ j, N.1 31 j = M.1 31 j ∧ N.1 32 j = M.1 32 j) ∧ ∀ b h, b ≤ pcN g → h ≤ 8 - pcN g → N.1 33 (b * 9 + h) = v (wE b h (pcN g) w d k) := by
  have ha := pcN_le g
  have key : ∃ N, fX8_weigh_L9 x1 w d k (nI (pcN g)) 4000 0 M = some N ∧ FrS x1 M N ∧ (∀ j, N.1 31 j = M.1 31 j ∧ N.1 32 j = M.1 32 j) ∧ ∀ b h, b ≤ pcN g → h ≤ 8 - pcN g → N.1 33 (b * 9 + h) = v (wE b h (pcN g) w d k) := by
    refine zforI (fun m (s : Int32 × zM) => fX8_weigh_L9 x1 w d k (nI (pcN g)) m s.1 s.2) (fun i s => s.1 = nI i ∧ FrS x1 M s.2 ∧ (∀ j, s.2.1 31 j = M.1 31 j ∧ s.2.1 32 j = M.1 32 j) ∧ ∀ b h, b < i → h ≤ 8 - pcN g → s.2.1 33 (b * 9 + h) = v (wE b h (pcN g) w d k)) (pcN g + 1) (fun r => ∃ N, r = some N ∧ FrS x1 M N ∧ (∀ j, N.1 31 j = M.1 31 j ∧ N.1 32 j = M.1 32 j) ∧ ∀ b h, b ≤ pcN g → h ≤ 8 - pcN g → N.1 33 (b * 9 + h) = v (wE b h (pcN g) w d k)) ?_ ?_ (pcN g + 1) 0 4000 (0, M) (by omega) (by omega) ⟨rfl, FrS.refl x1 M, fun _ => ⟨rfl, rfl⟩, fun b h hb => absurd hb (by omega)⟩
    · rintro m i ⟨y, N⟩ hi ⟨q1, q2, q3, q5⟩
      dsimp only at q1 q2 q3 q5 ⊢
      subst q1
      obtain ⟨N2, e1, f1, f2, f3, f4⟩ := p_weighIn hx hv (w := w) (d := d) (k := k) ha (show i ≤ pcN g by omega) (hP.fr q2 hx)
      refine ⟨(nI (i + 1), N2), ⟨rfl, q2.trans f1, fun j => ⟨(f2 j).1.trans (q3 j).1, (f2 j).2.trans (q3 j).2⟩, fun b h hb hh => ?_⟩, ?_⟩
      · by_cases c : b = i
        · subst c; exact f4 h hh
        · rw [f3 _ (by omega)]; exact q5 b h (by omega) hh
      · simp only [fX8_weigh_L9, if_neg (show ¬ nI (pcN g) < nI i from ltF (by omega) (by omega)), e1, Option.bind_some, nI_1]
    · rintro m ⟨y, N⟩ ⟨q1, q2, q3, q5⟩
      dsimp only at q1 q2 q3 q5 ⊢
      subst q1
      exact ⟨N, by simp only [fX8_weigh_L9, if_pos (show nI (pcN g) < nI (pcN g + 1) from ltT (by omega) (by omega))], q2, q3, fun b h hb hh => q5 b h (by omega) hh⟩
  obtain ⟨N, e, r⟩ := key
  refine ⟨N, ?_, r⟩
  unfold fX8_weigh
  simp only [zlet, bc_nI g hg, e, Option.bind_some]
/-- the state of a survey, behind i things -/
def SvS (N : zM) (O : Nat → Option Nat) (V : Nat → Nat → Int32) (m : Nat) : Prop := N.1 31 m = oC (O m) ∧ ∀ b, O m = some b → N.1 32 m = V m b ∧ b < 8
theorem oC_neg (o : Option Nat) (h : ∀ b, o = some b → b < 8) : oC o < 0 ↔ o = none := by
  cases o with
  | none => exact ⟨fun _ => rfl, fun _ => by decide⟩
  | some b => exact ⟨fun z => absurd z (nI_nneg (by have := h b rfl; omega)), fun z => by cases z⟩
theorem p_offer {q w d k : Int32} {g t : Nat} (hg : g < 256) (ht : t < 8) {O : Nat → Option Nat} {V : Nat → Nat → Int32} (hV : ∀ m, m < 256 → V m t = v (wE (pcN (m &&& g)) (pcN m - pcN (m &&& g)) (pcN g) w d k)) {M : zM} (h33 : ∀ b h, b ≤ pcN g → h ≤ 8 - pcN g → M.1 33 (b * 9 + h) = v (wE b h (pcN g) w d k)) (hS : ∀ m, m < 256 → SvS M O V m) : ∃ N, fX8_offer (nI t) (nI g) q M = some N ∧ (∀ k, k ≠ 31 → k ≠ 32 → N.1 k = M.1 k) ∧ N.2 = M.2 ∧ ∀ m, m < 256 → SvS N (fun m => bS (fun _ => !decide (V m t < q)) (fun b => V m b) t (O m)) V m := by
  have key : ∃ N, fX8_offer_L3 (nI t) (nI g) q 4000 0 M = some N ∧ (∀ k, k ≠ 31 → k ≠ 32 → N.1 k = M.1 k) ∧ N.2 = M.2 ∧ ∀ m, m < 256 → SvS N (fun m => bS (fun _ => !decide (V m t < q)) (fun b => V m b) t (O m)) V m := by
    refine zforI (fun m (s : Int32 × zM) => fX8_offer_L3 (nI t) (nI g) q m s.1 s.2) (fun i s => s.1 = nI i ∧ (∀ k, k ≠ 31 → k ≠ 32 → s.2.1 k = M.1 k) ∧ s.2.2 = M.2 ∧ (∀ m, m < i → SvS s.2 (fun m => bS (fun _ => !decide (V m t < q)) (fun b => V m b) t (O m)) V m) ∧ ∀ m, i ≤ m → s.2.1 31 m = M.1 31 m ∧ s.2.1 32 m = M.1 32 m) 256 (fun r => ∃ N, r = some N ∧ (∀ k, k ≠ 31 → k ≠ 32 → N.1 k = M.1 k) ∧ N.2 = M.2 ∧ ∀ m, m < 256 → SvS N (fun m => bS (fun _ => !decide (V m t < q)) (fun b => V m b) t (O m)) V m) ?_ ?_ 256 0 4000 (0, M) rfl (by omega) ⟨rfl, fun _ _ _ => rfl, rfl, fun m hm => absurd hm (by omega), fun _ _ => ⟨rfl, rfl⟩⟩
    · rintro m i ⟨y, N⟩ hi ⟨q1, q2, q3, q4, q5⟩
      dsimp only at q1 q2 q3 q4 q5 ⊢
      subst q1
      have i31 : i < 2 ^ 31 := by omega
      have pa := pc_and_le (a := i) (b := g)
      have pl := pc_sub_le (a := i) (b := g)
      have p8 := pcN_le g
      have p9 := pcN_le i
      have eix : nI (pcN (i &&& g)) * 9 + nI (pcN i) - nI (pcN (i &&& g)) = nI (pcN (i &&& g) * 9 + (pcN i - pcN (i &&& g))) := by
        rw [show nI (pcN (i &&& g)) * 9 = nI (pcN (i &&& g) * 9) from pk_mul _ 9, nI_add, pk_sub (by omega)]
        congr 1
        omega
      have e33 : N.1 33 (pcN (i &&& g) * 9 + (pcN i - pcN (i &&& g))) = V i t := by
        rw [q2 33 (by omega) (by omega), h33 _ _ pa.1 pl, hV i hi]
      obtain ⟨s1, s2⟩ := hS i hi
      have s1' : N.1 31 i = oC (O i) := by rw [(q5 i (Nat.le_refl i)).1]; exact s1
      have s2' : ∀ b, O i = some b → N.1 32 i = V i b ∧ b < 8 := fun b hb => by rw [(q5 i (Nat.le_refl i)).2]; exact s2 b hb
      have ng := oC_neg (O i) (fun b hb => (s2 b hb).2)
      -- the two ways
      have stay : bS (fun _ => !decide (V i t < q)) (fun b => V i b) t (O i) = O i → ∃ s' : Int32 × zM, (s'.1 = nI (i + 1) ∧ (∀ k, k ≠ 31 → k ≠ 32 → s'.2.1 k = M.1 k) ∧ s'.2.2 = M.2 ∧ (∀ m, m < i + 1 → SvS s'.2 (fun m => bS (fun _ => !decide (V m t < q)) (fun b => V m b) t (O m)) V m) ∧ ∀ m, i + 1 ≤ m → s'.2.1 31 m = M.1 31 m ∧ s'.2.1 32 m = M.1 32 m) ∧ fX8_offer_L3 (nI t) (nI g) q m (nI i + 1) N = fX8_offer_L3 (nI t) (nI g) q m s'.1 s'.2 := fun es => by
        refine ⟨(nI (i + 1), N), ⟨rfl, q2, q3, fun m hm => ?_, fun m hm => q5 m (by omega)⟩, by rw [nI_1]⟩
        by_cases c : m = i
        · subst c
          unfold SvS
          dsimp only
          rw [es]
          exact ⟨s1', s2'⟩
        · exact q4 m (by omega)
      have take : bS (fun _ => !decide (V i t < q)) (fun b => V i b) t (O i) = some t → ∃ s' : Int32 × zM, (s'.1 = nI (i + 1) ∧ (∀ k, k ≠ 31 → k ≠ 32 → s'.2.1 k = M.1 k) ∧ s'.2.2 = M.2 ∧ (∀ m, m < i + 1 → SvS s'.2 (fun m => bS (fun _ => !decide (V m t < q)) (fun b => V m b) t (O m)) V m) ∧ ∀ m, i + 1 ≤ m → s'.2.1 31 m = M.1 31 m ∧ s'.2.1 32 m = M.1 32 m) ∧ fX8_offer_L3 (nI t) (nI g) q m (nI i + 1) (zSI (zSI N 31 i (nI t)) 32 i (V i t)) = fX8_offer_L3 (nI t) (nI g) q m s'.1 s'.2 := fun es => by
        refine ⟨(nI (i + 1), zSI (zSI N 31 i (nI t)) 32 i (V i t)), ⟨rfl, fun k k1 k2 => by rw [zSI_other _ _ _ k2, zSI_other _ _ _ k1]; exact q2 k k1 k2, q3, fun m hm => ?_, fun m hm => ?_⟩, by rw [nI_1]⟩
        · by_cases c : m = i
          · subst c
            unfold SvS
            dsimp only
            rw [es]
            refine ⟨?_, fun b hb => ?_⟩
            · rw [gSI, if_neg (by omega), gSI, if_pos ⟨rfl, rfl⟩]; rfl
            · cases hb
              rw [gSI, if_pos ⟨rfl, rfl⟩]; exact ⟨rfl, ht⟩
          · have := q4 m (by omega)
            unfold SvS at this ⊢
            rw [gSI, if_neg (by omega), gSI, if_neg (by omega), gSI, if_neg (by omega), gSI, if_neg (by omega)]
            exact this
        · rw [gSI, if_neg (by omega), gSI, if_neg (by omega), gSI, if_neg (by omega), gSI, if_neg (by omega)]
          exact q5 m (by omega)
      simp only [fX8_offer_L3, if_neg (show ¬ 256 ≤ nI i from leF (a := 256) hi (by omega)), zlet, nI_and, bc_nI _ (and_lt_256 hi), bc_nI i hi, eix, if_pos (zinT (show pcN (i &&& g) * 9 + (pcN i - pcN (i &&& g)) < 81 by omega) (by omega)), nI_clamp (show pcN (i &&& g) * 9 + (pcN i - pcN (i &&& g)) < 2 ^ 31 by omega), e33, if_pos (zinT hi i31), nI_clamp i31, zj]
      by_cases c1 : V i t < q
      · rw [if_pos c1]
        exact stay (by unfold bS; simp [c1])
      · rw [if_neg c1, s1']
        cases hO : O i with
        | none =>
          rw [hO] at stay take
          rw [if_pos (by decide)]
          exact take (by unfold bS; simp [c1])
        | some b =>
          rw [hO] at stay take
          have := (s2' b hO)
          rw [if_neg (show ¬ oC (some b) < 0 from nI_nneg (by omega)), this.1]
          by_cases c2 : V i b < V i t
          · rw [if_neg ((ile_nlt _ _).mpr c2)]
            exact take (by unfold bS; simp [c1, c2])
          · rw [if_pos ((ilt_nle _ _).mp c2)]
            exact stay (by unfold bS; simp [c1, c2])
    · rintro m ⟨y, N⟩ ⟨q1, q2, q3, q4, q5⟩
      dsimp only at q1 q2 q3 q4 q5 ⊢
      subst q1
      exact ⟨N, by simp only [fX8_offer_L3, if_pos (show 256 ≤ nI 256 from leT (a := 256) (Nat.le_refl 256) (by omega))], q2, q3, q4⟩
  obtain ⟨N, e, r⟩ := key
  exact ⟨N, by unfold fX8_offer; rw [e]; rfl, r⟩
end SV
