/-! RULES: one reading of signs for both sides -/
abbrev pR := Bool × Nat × List Int32 × ((Nat → Int32) → Int32)
def isDg (x : Int32) : Bool := !decide (x < 48) && !decide (57 < x)
def jn (o a b : Int32) : Int32 := if o = 42 then a * b else if o = 43 then a + b else if o = 45 then a - b else if o = 47 then (if b = 0 then 0 else a / b) else if o = 60 then (if b ≤ a then 0 else 1) else if o = 62 then (if a ≤ b then 0 else 1) else (if a = b then 1 else 0)
theorem joined_jn (o a b : Int32) : fX4_joined o a b = some (jn o a b) := by
  unfold fX4_joined jn
  repeat' split
  all_goals first | rfl | contradiction
def pNum (g : Nat → Int32) (p : Nat) : Nat × Int32 :=
  if isDg (g (p + 1)) = true then (if isDg (g (p + 2)) = true then (p + 3, (((g p - 48) * 10 + g (p + 1)) - 48) * 10 + g (p + 2) - 48) else (p + 2, ((g p - 48) * 10 + g (p + 1)) - 48)) else (p + 1, g p - 48)
def pPrim (br : Nat → pR) (g : Nat → Int32) (p : Nat) : pR :=
  if g p = 40 then br p
  else if isDg (g p) = true then (true, (pNum g p).1, [(pNum g p).2], fun _ => (pNum g p).2)
  else if fX12_letterOf (g p) = -1 then (false, p, [], fun _ => 0)
  else (true, p + 1, [1000 + fX12_letterOf (g p)], fun e => e (fX12_letterOf (g p)).toNatClampNeg)
def pMin (g : Nat → Int32) : Nat → Nat → Nat × Bool
  | 0, p => (p, false)
  | k + 1, p => if g p = 45 then ((pMin g k (p + 1)).1, !(pMin g k (p + 1)).2) else (p, false)
def pNeg (t : Bool) (r : pR) : pR := (r.1, r.2.1, (if r.1 = true ∧ t = true then r.2.2.1 ++ [3000] else r.2.2.1), fun e => if t = true then -(r.2.2.2 e) else r.2.2.2 e)
def pSgn (br : Nat → pR) (g : Nat → Int32) (p : Nat) : pR := pNeg (pMin g 40 p).2 (pPrim br g (pMin g 40 p).1)
def pJoin (g : Nat → Int32) (r s : pR) : pR := (s.1, s.2.1, r.2.2.1 ++ s.2.2.1 ++ [2000 + g r.2.1], fun e => jn (g r.2.1) (r.2.2.2 e) (s.2.2.2 e))
def pLp (op : Int32 → Bool) (sub : Nat → pR) (g : Nat → Int32) : Nat → pR → pR
  | 0, r => r
  | k + 1, r => if r.1 = true ∧ op (g r.2.1) = true then pLp op sub g k (pJoin g r (sub (r.2.1 + 1))) else r
def isMul (x : Int32) : Bool := decide (x = 42) || decide (x = 47)
def isAdd (x : Int32) : Bool := decide (x = 43) || decide (x = 45)
def isCmp (x : Int32) : Bool := decide (x = 60) || (decide (x = 62) || decide (x = 61))
def pPrd (br : Nat → pR) (g : Nat → Int32) (p : Nat) : pR := pLp isMul (pSgn br g) g 40 (pSgn br g p)
def pSum (br : Nat → pR) (g : Nat → Int32) (p : Nat) : pR := pLp isAdd (pPrd br g) g 40 (pPrd br g p)
def pCmJ (g : Nat → Int32) (r s : pR) : pR := (s.1, s.2.1, (if s.1 = true then r.2.2.1 ++ s.2.2.1 ++ [2000 + g r.2.1] else r.2.2.1 ++ s.2.2.1), fun e => jn (g r.2.1) (r.2.2.2 e) (s.2.2.2 e))
def pCmp (br : Nat → pR) (g : Nat → Int32) (p : Nat) : pR := if (pSum br g p).1 = true ∧ isCmp (g (pSum br g p).2.1) = true then pCmJ g (pSum br g p) (pSum br g ((pSum br g p).2.1 + 1)) else pSum br g p
def pCls (g : Nat → Int32) (r : pR) : pR := if r.1 = true ∧ g r.2.1 = 41 then (true, r.2.1 + 1, r.2.2.1, r.2.2.2) else (false, r.2.1, r.2.2.1, r.2.2.2)
def pBr (g : Nat → Int32) : Nat → Nat → pR
  | 0, q => (false, q, [], fun _ => 0)
  | l + 1, q => pCls g (pCmp (pBr g l) g (q + 1))
/-! what a list of parts comes to -/
def nmV (e : Nat → Int32) (x : Int32) : Int32 := if x < 0 then 0 else if 6 ≤ x then 0 else e x.toNatClampNeg
def evP (e : Nat → Int32) (st : List Int32) (x : Int32) : List Int32 :=
  if 2000 ≤ x then (if x = 3000 then (match st with | [] => [] | a :: t => (-a) :: t) else (match st with | b :: a :: t => jn (x - 2000) a b :: t | t => t))
  else (if 1000 ≤ x then nmV e (x - 1000) else x) :: st
def rn (e : Nat → Int32) (l : List Int32) (st : List Int32) : List Int32 := l.foldl (evP e) st
theorem rn_app (e : Nat → Int32) (a b : List Int32) (st : List Int32) : rn e (a ++ b) st = rn e b (rn e a st) := List.foldl_append
/-! the reading stays within its signs -/
def GS (g : Nat → Int32) (S : Nat) : Prop := S ≤ 40 ∧ (∀ j, S ≤ j → g j = -1) ∧ ∀ j, j < S → ∃ b : Nat, b < 256 ∧ g j = nI b
def pOk (S p : Nat) (r : pR) : Prop := p ≤ r.2.1 ∧ r.2.1 ≤ S ∧ p + r.2.2.1.length ≤ r.2.1 ∧ (r.1 = true → ∀ e st, rn e r.2.2.1 st = r.2.2.2 e :: st)
theorem GS.lt {g : Nat → Int32} {S : Nat} (h : GS g S) {j : Nat} (hj : g j ≠ -1) : j < S := by
  rcases Nat.lt_or_ge j S with z | z
  · exact z
  · exact absurd (h.2.1 j z) hj
theorem GS.dg {g : Nat → Int32} {S : Nat} (h : GS g S) {j : Nat} (hj : isDg (g j) = true) : j < S ∧ ∃ d : Nat, d < 10 ∧ g j = nI (48 + d) := by
  have hl : j < S := h.lt (fun z => by rw [z] at hj; exact absurd hj (by decide))
  refine ⟨hl, ?_⟩
  obtain ⟨b, hb, e⟩ := h.2.2 j hl
  rw [e] at hj ⊢
  have key : ∀ b, b < 256 → isDg (nI b) = true → ∃ d, d < 10 ∧ b = 48 + d := by
    intro b hb hd
    have h1 : 48 ≤ b ∧ b ≤ 57 := (by decide +kernel : ∀ b, b < 256 → isDg (nI b) = true → 48 ≤ b ∧ b ≤ 57) b hb hd
    exact ⟨b - 48, by omega, by omega⟩
  obtain ⟨d, hd, e2⟩ := key b hb hj
  exact ⟨d, hd, by rw [e2]⟩
theorem nI_sub48 (d : Nat) : nI (48 + d) - 48 = nI d := by
  rw [show (48 : Int32) = nI 48 from rfl, nI_subN (show 48 ≤ 48 + d by omega)]
  congr 1
  omega
theorem nI_mulN (a b : Nat) : nI a * nI b = nI (a * b) := by
  apply Int32.toBitVec_inj.mp
  rw [Int32.toBitVec_mul]
  show BitVec.ofNat 32 a * BitVec.ofNat 32 b = BitVec.ofNat 32 (a * b)
  rw [BitVec.ofNat_mul]
theorem mul10 (d k : Nat) : (nI d * 10 + nI (48 + k)) - 48 = nI (10 * d + k) := by
  rw [show (48 : Int32) = nI 48 from rfl, show (10 : Int32) = nI 10 from rfl, nI_mulN, nI_add, nI_subN (by omega)]
  congr 1
  omega
/-- a number has at most three digits -/
theorem pNum_eq {g : Nat → Int32} {S p : Nat} (h : GS g S) (hd : isDg (g p) = true) : ∃ v : Nat, v < 1000 ∧ (pNum g p).2 = nI v ∧ p < (pNum g p).1 ∧ (pNum g p).1 ≤ S := by
  obtain ⟨h0, d0, a0, e0⟩ := h.dg hd
  unfold pNum
  by_cases c1 : isDg (g (p + 1)) = true
  · obtain ⟨h1, d1, a1, e1⟩ := h.dg c1
    by_cases c2 : isDg (g (p + 2)) = true
    · obtain ⟨h2, d2, a2, e2⟩ := h.dg c2
      rw [if_pos c1, if_pos c2]
      refine ⟨10 * (10 * d0 + d1) + d2, by omega, ?_, by show p < p + 3; omega, h2⟩
      show (((g p - 48) * 10 + g (p + 1)) - 48) * 10 + g (p + 2) - 48 = _
      rw [e0, e1, e2, nI_sub48, mul10, mul10]
    · rw [if_pos c1, if_neg c2]
      refine ⟨10 * d0 + d1, by omega, ?_, by show p < p + 2; omega, h1⟩
      show ((g p - 48) * 10 + g (p + 1)) - 48 = _
      rw [e0, e1, nI_sub48, mul10]
  · rw [if_neg c1]
    exact ⟨d0, by omega, by show g p - 48 = _; rw [e0, nI_sub48], by show p < p + 1; omega, h0⟩
theorem rn_num (e : Nat → Int32) {v : Nat} (hv : v < 1000) (st : List Int32) : rn e [nI v] st = nI v :: st := by
  show evP e st (nI v) = _
  unfold evP
  rw [if_neg (show ¬ 2000 ≤ nI v from leF (a := 2000) (by omega) (by omega)), if_neg (show ¬ 1000 ≤ nI v from leF (a := 1000) (by omega) (by omega))]
theorem letter_cases (x : Int32) : fX12_letterOf x = -1 ∨ ∃ k : Nat, k < 6 ∧ fX12_letterOf x = nI k := by
  unfold fX12_letterOf
  by_cases h : x = 109
  · rw [if_pos h]; exact Or.inr ⟨0, by omega, rfl⟩
  rw [if_neg h]
  by_cases h : x = 120
  · rw [if_pos h]; exact Or.inr ⟨1, by omega, rfl⟩
  rw [if_neg h]
  by_cases h : x = 121
  · rw [if_pos h]; exact Or.inr ⟨2, by omega, rfl⟩
  rw [if_neg h]
  by_cases h : x = 119
  · rw [if_pos h]; exact Or.inr ⟨3, by omega, rfl⟩
  rw [if_neg h]
  by_cases h : x = 100
  · rw [if_pos h]; exact Or.inr ⟨4, by omega, rfl⟩
  rw [if_neg h]
  by_cases h : x = 110
  · rw [if_pos h]; exact Or.inr ⟨5, by omega, rfl⟩
  rw [if_neg h]
  exact Or.inl rfl
theorem nI_sub1000 (k : Nat) : nI (1000 + k) - 1000 = nI k := by
  have := nI_subN (a := 1000 + k) (b := 1000) (by omega)
  rw [show 1000 + k - 1000 = k by omega] at this
  exact this
theorem rn_name (e : Nat → Int32) {k : Nat} (hk : k < 6) (st : List Int32) : rn e [1000 + nI k] st = e k :: st := by
  show evP e st (1000 + nI k) = _
  rw [show (1000 : Int32) + nI k = nI (1000 + k) from nI_add 1000 k]
  unfold evP
  rw [if_neg (show ¬ 2000 ≤ nI (1000 + k) from leF (a := 2000) (by omega) (by omega)), if_pos (show 1000 ≤ nI (1000 + k) from leT (a := 1000) (by omega) (by omega)), nI_sub1000]
  unfold nmV
  rw [if_neg (nI_nneg (by omega)), if_neg (show ¬ 6 ≤ nI k from leF (a := 6) hk (by omega)), nI_clamp (by omega)]
theorem pPrim_ok {br : Nat → pR} {g : Nat → Int32} {S p : Nat} (h : GS g S) (hp : p ≤ S) (hb : ∀ q, q < S → pOk S q (br q)) : pOk S p (pPrim br g p) := by
  unfold pPrim
  by_cases c0 : g p = 40
  · rw [if_pos c0]; exact hb p (h.lt (fun z => by rw [z] at c0; exact absurd c0 (by decide)))
  · rw [if_neg c0]
    by_cases c1 : isDg (g p) = true
    · rw [if_pos c1]
      obtain ⟨v, hv, e, h1, h2⟩ := pNum_eq h c1
      refine ⟨by show p ≤ (pNum g p).1; omega, h2, by show p + 1 ≤ (pNum g p).1; omega, fun _ en st => ?_⟩
      show rn en [(pNum g p).2] st = (pNum g p).2 :: st
      rw [e]
      exact rn_num en hv st
    · rw [if_neg c1]
      rcases letter_cases (g p) with q | ⟨k, hk, q⟩
      · rw [if_pos q]
        exact ⟨Nat.le_refl p, hp, Nat.le_refl p, fun z => by cases z⟩
      · rw [if_neg (by rw [q]; exact fun z => nI_ne_m1 (show k < 2 ^ 31 by omega) z.symm)]
        have hl : p < S := h.lt (fun z => by
          rw [z] at q
          exact nI_ne_m1 (show k < 2 ^ 31 by omega) q)
        refine ⟨by show p ≤ p + 1; omega, hl, Nat.le_refl _, fun _ en st => ?_⟩
        show rn en [1000 + fX12_letterOf (g p)] st = en (fX12_letterOf (g p)).toNatClampNeg :: st
        rw [q, nI_clamp (by omega)]
        exact rn_name en hk st
theorem pMin_ok {g : Nat → Int32} {S : Nat} (h : GS g S) : ∀ k p, p ≤ S → S ≤ p + k → p ≤ (pMin g k p).1 ∧ (pMin g k p).1 ≤ S ∧ ((pMin g k p).2 = true → p < (pMin g k p).1) ∧ g (pMin g k p).1 ≠ 45
  | 0, p, hp, hk => by
    refine ⟨Nat.le_refl p, hp, (fun z => by cases z), fun z => ?_⟩
    have z : g p = 45 := z
    rw [h.2.1 p (by omega)] at z
    exact absurd z (by decide)
  | k + 1, p, hp, hk => by
    unfold pMin
    by_cases c : g p = 45
    · rw [if_pos c]
      have hl : p < S := h.lt (fun z => by rw [z] at c; exact absurd c (by decide))
      obtain ⟨a, b, -, d⟩ := pMin_ok h k (p + 1) hl (by omega)
      exact ⟨by show p ≤ (pMin g k (p + 1)).1; omega, b, fun _ => by show p < (pMin g k (p + 1)).1; omega, d⟩
    · rw [if_neg c]
      exact ⟨Nat.le_refl p, hp, (fun z => by cases z), c⟩
theorem rn_neg (e : Nat → Int32) (a : Int32) (st : List Int32) : rn e [3000] (a :: st) = (-a) :: st := by
  show evP e (a :: st) 3000 = _
  unfold evP
  rw [if_pos (by decide), if_pos rfl]
theorem pSgn_ok {br : Nat → pR} {g : Nat → Int32} {S p : Nat} (h : GS g S) (hp : p ≤ S) (hb : ∀ q, q < S → pOk S q (br q)) : pOk S p (pSgn br g p) := by
  obtain ⟨a, b, c, -⟩ := pMin_ok h 40 p hp (by have := h.1; omega)
  obtain ⟨r1, r2, r3, r4⟩ := pPrim_ok h b hb
  unfold pSgn pNeg
  generalize pMin g 40 p = q at a b c r1 r2 r3 r4
  generalize pPrim br g q.1 = r at r1 r2 r3 r4
  refine ⟨by show p ≤ r.2.1; omega, r2, ?_, ?_⟩
  · show p + (if r.1 = true ∧ q.2 = true then r.2.2.1 ++ [3000] else r.2.2.1).length ≤ r.2.1
    split
    · rename_i z
      have := c z.2
      rw [List.length_append]
      show p + (r.2.2.1.length + 1) ≤ r.2.1
      omega
    · omega
  · intro hr e st
    have hr : r.1 = true := hr
    show rn e (if r.1 = true ∧ q.2 = true then r.2.2.1 ++ [3000] else r.2.2.1) st = (if q.2 = true then -(r.2.2.2 e) else r.2.2.2 e) :: st
    by_cases t : q.2 = true
    · rw [if_pos ⟨hr, t⟩, if_pos t, rn_app, r4 hr e st, rn_neg]
    · rw [if_neg (fun z => t z.2), if_neg t]
      exact r4 hr e st
def isOp (x : Int32) : Bool := isMul x || isAdd x || isCmp x
theorem op_cases {x : Int32} (h : isOp x = true) : x = 42 ∨ x = 43 ∨ x = 45 ∨ x = 47 ∨ x = 60 ∨ x = 61 ∨ x = 62 := by
  unfold isOp isMul isAdd isCmp at h
  simp only [Bool.or_eq_true, decide_eq_true_eq] at h
  rcases h with ((h | h) | (h | h)) | h | h | h <;> simp [h]
theorem rn_op (e : Nat → Int32) {x : Int32} (h : isOp x = true) (a b : Int32) (st : List Int32) : rn e [2000 + x] (b :: a :: st) = jn x a b :: st := by
  show evP e (b :: a :: st) (2000 + x) = _
  unfold evP
  rcases op_cases h with rfl | rfl | rfl | rfl | rfl | rfl | rfl <;> (rw [if_pos (by decide), if_neg (by decide)]; rfl)
theorem pLp_ok {op : Int32 → Bool} {sub : Nat → pR} {g : Nat → Int32} {S p : Nat} (h : GS g S) (hop : ∀ x, op x = true → isOp x = true) (hs : ∀ q, q ≤ S → pOk S q (sub q)) : ∀ k r, pOk S p r → pOk S p (pLp op sub g k r)
  | 0, r, hr => hr
  | k + 1, r, hr => by
    unfold pLp
    by_cases c : r.1 = true ∧ op (g r.2.1) = true
    · rw [if_pos c]
      refine pLp_ok h hop hs k _ ?_
      obtain ⟨r1, r2, r3, r4⟩ := hr
      have ho := hop _ c.2
      have hl : r.2.1 < S := h.lt (fun z => by rw [z] at ho; exact absurd ho (by decide))
      obtain ⟨s1, s2, s3, s4⟩ := hs (r.2.1 + 1) hl
      unfold pJoin
      refine ⟨by show p ≤ (sub (r.2.1 + 1)).2.1; omega, s2, ?_, fun z e st => ?_⟩
      · show p + (r.2.2.1 ++ (sub (r.2.1 + 1)).2.2.1 ++ [2000 + g r.2.1]).length ≤ (sub (r.2.1 + 1)).2.1
        rw [List.length_append, List.length_append]
        show p + (r.2.2.1.length + (sub (r.2.1 + 1)).2.2.1.length + 1) ≤ _
        omega
      · show rn e (r.2.2.1 ++ (sub (r.2.1 + 1)).2.2.1 ++ [2000 + g r.2.1]) st = jn (g r.2.1) (r.2.2.2 e) ((sub (r.2.1 + 1)).2.2.2 e) :: st
        rw [rn_app, rn_app, r4 c.1 e st, s4 z e _, rn_op e ho]
    · rw [if_neg c]; exact hr
theorem pPrd_ok {br : Nat → pR} {g : Nat → Int32} {S p : Nat} (h : GS g S) (hp : p ≤ S) (hb : ∀ q, q < S → pOk S q (br q)) : pOk S p (pPrd br g p) :=
  pLp_ok h (fun x hx => by unfold isOp; rw [hx]; rfl) (fun q hq => pSgn_ok h hq hb) 40 _ (pSgn_ok h hp hb)
theorem pSum_ok {br : Nat → pR} {g : Nat → Int32} {S p : Nat} (h : GS g S) (hp : p ≤ S) (hb : ∀ q, q < S → pOk S q (br q)) : pOk S p (pSum br g p) :=
  pLp_ok h (fun x hx => by unfold isOp; rw [hx]; simp) (fun q hq => pPrd_ok h hq hb) 40 _ (pPrd_ok h hp hb)
theorem pCmp_ok {br : Nat → pR} {g : Nat → Int32} {S p : Nat} (h : GS g S) (hp : p ≤ S) (hb : ∀ q, q < S → pOk S q (br q)) : pOk S p (pCmp br g p) := by
  have hr := pSum_ok h hp hb
  unfold pCmp
  by_cases c : (pSum br g p).1 = true ∧ isCmp (g (pSum br g p).2.1) = true
  · rw [if_pos c]
    generalize pSum br g p = r at hr c ⊢
    obtain ⟨r1, r2, r3, r4⟩ := hr
    have ho : isOp (g r.2.1) = true := by unfold isOp; rw [c.2]; simp
    have hl : r.2.1 < S := h.lt (fun z => by rw [z] at ho; exact absurd ho (by decide))
    obtain ⟨s1, s2, s3, s4⟩ := pSum_ok (p := r.2.1 + 1) h hl hb
    generalize pSum br g (r.2.1 + 1) = s at s1 s2 s3 s4 ⊢
    unfold pCmJ
    refine ⟨by show p ≤ s.2.1; omega, s2, ?_, fun z e st => ?_⟩
    · show p + (if s.1 = true then r.2.2.1 ++ s.2.2.1 ++ [2000 + g r.2.1] else r.2.2.1 ++ s.2.2.1).length ≤ s.2.1
      split
      · rw [List.length_append, List.length_append]
        show p + (r.2.2.1.length + s.2.2.1.length + 1) ≤ _
        omega
      · rw [List.length_append]; omega
    · have z : s.1 = true := z
      show rn e (if s.1 = true then r.2.2.1 ++ s.2.2.1 ++ [2000 + g r.2.1] else r.2.2.1 ++ s.2.2.1) st = jn (g r.2.1) (r.2.2.2 e) (s.2.2.2 e) :: st
      rw [if_pos z, rn_app, rn_app, r4 c.1 e st, s4 z e _, rn_op e ho]
  · rw [if_neg c]; exact hr
theorem pBr_ok {g : Nat → Int32} {S : Nat} (h : GS g S) : ∀ l q, q < S → pOk S q (pBr g l q)
  | 0, q, hq => ⟨Nat.le_refl q, Nat.le_of_lt hq, Nat.le_refl q, fun z => by cases z⟩
  | l + 1, q, hq => by
    obtain ⟨r1, r2, r3, r4⟩ := pCmp_ok (p := q + 1) h hq (pBr_ok h l)
    show pOk S q (pCls g (pCmp (pBr g l) g (q + 1)))
    generalize pCmp (pBr g l) g (q + 1) = r at r1 r2 r3 r4
    unfold pCls
    by_cases c : r.1 = true ∧ g r.2.1 = 41
    · rw [if_pos c]
      have hl : r.2.1 < S := h.lt (fun z => by rw [z] at c; exact absurd c.2 (by decide))
      exact ⟨by show q ≤ r.2.1 + 1; omega, hl, by show q + r.2.2.1.length ≤ r.2.1 + 1; omega, fun _ => r4 c.1⟩
    · rw [if_neg c]
      exact ⟨by show q ≤ r.2.1; omega, r2, by show q + r.2.2.1.length ≤ r.2.1; omega, fun z => by cases z⟩
/-- a whole rule: four levels of brackets -/
def pAll (g : Nat → Int32) : pR := pCmp (pBr g 4) g 0
theorem pAll_ok {g : Nat → Int32} {S : Nat} (h : GS g S) : pOk S 0 (pAll g) := pCmp_ok h (Nat.zero_le S) (pBr_ok h 4)
