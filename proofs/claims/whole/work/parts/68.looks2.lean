/-! looks, the call -/
theorem vC_frac {α : Type} {M : zM} {l : List Int64} {a b : Nat} {f : zM → Option α} {K : α → Prop} (hR : CR M l) (hl : l.length < 15) (ha : a < 2 ^ 62) (hb : b ≤ 2 ^ 40) (hb0 : 0 < b) (k : ∀ N, TC M N → CR N (l ++ [lN (a / Nat.gcd a b), lN (b / Nat.gcd a b)]) → wpO (f N) K) : wpO ((fX3_tellFraction (lN a) (lN b) M).bind f) K := by
  have hg0 : 0 < Nat.gcd a b := Nat.gcd_pos_of_pos_right a hb0
  have hgb : Nat.gcd a b ≤ b := Nat.gcd_le_right a hb0
  have e : fX3_commonDivisor (lN a) (lN b) = some (lN (Nat.gcd a b)) := by
    unfold fX3_commonDivisor
    rw [show (0 : Int32) = nI 0 from rfl, gcdC 40 a b 4000 0 ha hb (by omega) (by omega) (by omega)]
    rfl
  have c1 : ¬ lg_cmp (lN (Nat.gcd a b)) 0 = 0 := fun z => by have := (cmp0 (by omega)).mp z; omega
  have c2 : ¬ lN (Nat.gcd a b) = 0 := fun z => by have := (lN_eq0 (by omega)).mp z; omega
  unfold fX3_tellFraction
  rw [e]
  simp only [Option.bind_some, if_neg c1, if_pos c2, pk_lDiv (show a < 2 ^ 63 by omega) hg0 (show Nat.gcd a b < 2 ^ 63 by omega), pk_lDiv (show b < 2 ^ 63 by omega) hg0 (show Nat.gcd a b < 2 ^ 63 by omega)]
  refine wpO_bk (vC_tell hR (by omega) (fun N1 f1 r1 => vC_tell r1 (by rw [List.length_append]; show l.length + 1 < 16; omega) (fun N2 f2 r2 => wpO_ret (k N2 (f1.trans f2) (by rw [List.append_assoc] at r2; exact r2)))))
/-- the fraction that stands first, put anew -/
theorem p_put {Y : zM} {u v : Int64} {bs : List Int64} {a b : Nat} (hR : CR Y ([u, v] ++ bs)) (hl : bs.length ≤ 10) (ha : a < 2 ^ 62) (hb : b ≤ 2 ^ 40) (hb0 : 0 < b) : ∃ Z, fX3_putFraction 0 (lN a) (lN b) Y = some Z ∧ TC Y Z ∧ CR Z ([lN (a / Nat.gcd a b), lN (b / Nat.gcd a b)] ++ bs) := by
  have hlen : ([u, v] ++ bs).length = 2 + bs.length := by rw [List.length_append]; rfl
  have h1 : Y.1 3 1 = nI (2 + bs.length) := by rw [hR.1, hlen]
  have ef := p_fracC (M := zSI Y 3 1 0) (j := 0) (by rw [gSI, if_pos ⟨rfl, rfl⟩]; rfl) (by omega) ha hb hb0
  generalize lN (a / Nat.gcd a b) = A at ef ⊢
  generalize lN (b / Nat.gcd a b) = B at ef ⊢
  generalize hF : zSI (zSJ (zSI (zSJ (zSI Y 3 1 0) 4 0 A) 3 1 (nI (0 + 1))) 4 (0 + 1) B) 3 1 (nI (0 + 1 + 1)) = F at ef
  refine ⟨zSI F 3 1 (nI (2 + bs.length)), ?_, ⟨fun q hq => ?_, fun q hq => ?_, by subst hF; rfl⟩, ?_, fun j w hj => ?_⟩
  · unfold fX3_putFraction
    rw [h1]
    simp only [zlet, if_neg (show ¬ (0 : Int32) < 0 by decide)]
    rw [if_neg (show ¬ nI (2 + bs.length) < 0 + 2 from ltF (a := 2 + bs.length) (b := 2) (by omega) (by omega)), ef]
    rfl
  · rw [zSI_other _ _ _ hq]
    subst hF
    rw [zSI_other _ _ _ hq]
    show (zSI (zSJ (zSI Y 3 1 0) 4 0 A) 3 1 (nI (0 + 1))).1 q = _
    rw [zSI_other _ _ _ hq]
    show (zSI Y 3 1 0).1 q = _
    rw [zSI_other _ _ _ hq]
  · show F.2.1 q = _
    subst hF
    show (zSJ (zSI (zSJ (zSI Y 3 1 0) 4 0 A) 3 1 (nI (0 + 1))) 4 (0 + 1) B).2.1 q = _
    rw [zSJ_other _ _ _ hq]
    show (zSJ (zSI Y 3 1 0) 4 0 A).2.1 q = _
    rw [zSJ_other _ _ _ hq]; rfl
  · rw [gSI, if_pos ⟨rfl, rfl⟩, List.length_append]; rfl
  · show F.2.1 4 j = w
    subst hF
    show (zSJ (zSI (zSJ (zSI Y 3 1 0) 4 0 A) 3 1 (nI (0 + 1))) 4 (0 + 1) B).2.1 4 j = w
    rw [gSJ]
    match j, hj with
    | 0, hj =>
      cases hj
      rw [if_neg (by omega)]
      show (zSJ (zSI Y 3 1 0) 4 0 A).2.1 4 0 = A
      rw [gSJ, if_pos ⟨rfl, rfl⟩]
    | 1, hj =>
      cases hj
      rw [if_pos ⟨rfl, rfl⟩]
    | j + 2, hj =>
      rw [if_neg (by omega)]
      show (zSJ (zSI Y 3 1 0) 4 0 A).2.1 4 (j + 2) = w
      rw [gSJ, if_neg (by omega)]
      exact hR.2 (j + 2) w hj
theorem c_sumD {M Y : zM} (h : ∀ j, j < 6 → Y.1 35 j = nI (dn M j) ∧ dn M j ≤ 9) : fX11_sumOfDigits Y = some (lN (smN (dn M) 6)) := by
  unfold fX11_sumOfDigits
  rw [show fX11_sumOfDigits_L4 Y 4000 0 0 = some (lN (smN (dn M) 6)) from zfor (fun n (s : Int64 × Int32) => fX11_sumOfDigits_L4 Y n s.1 s.2) (fun i => (lN (smN (dn M) i), nI i)) 6 _
    (fun n i hi => by
      obtain ⟨e, b⟩ := h i hi
      simp only [fX11_sumOfDigits_L4, if_neg (show ¬ 6 ≤ nI i from leF (a := 6) hi (by omega)), if_pos (zinT hi (show i < 2 ^ 31 by omega)), nI_clamp (show i < 2 ^ 31 by omega), zlet, e, toL (show dn M i < 2 ^ 31 by omega), lN_add, nI_1, smN])
    (fun n => by simp only [fX11_sumOfDigits_L4, if_pos (show 6 ≤ nI 6 from leT (a := 6) (Nat.le_refl 6) (by omega))])
    6 0 4000 rfl (by omega)]
  rfl
theorem shl10 : ∀ d, d < 10 → zshl (nI d) 10 = nI (1024 * d) := by decide +kernel
theorem lshl10 : ∀ d, d < 55 → zlshl (lN d) 10 = lN (1024 * d) := by decide +kernel
theorem c_shift {M C : zM} {x1 : Int32} {x2 : Int64} (h : ∀ j, j < 6 → C.1 35 j = nI (dn M j) ∧ dn M j ≤ 9) : ∃ Y, fX11_tellLooks_L3 x1 x2 4000 0 C = some Y ∧ (∀ q, q ≠ 35 → Y.1 q = C.1 q) ∧ Y.2 = C.2 ∧ ∀ j, j < 6 → Y.1 35 j = nI (1024 * dn M j) := by
  refine zforI (fun n (s : Int32 × zM) => fX11_tellLooks_L3 x1 x2 n s.1 s.2) (fun i s => s.1 = nI i ∧ (∀ q, q ≠ 35 → s.2.1 q = C.1 q) ∧ s.2.2 = C.2 ∧ (∀ j, j < i → s.2.1 35 j = nI (1024 * dn M j)) ∧ ∀ j, i ≤ j → s.2.1 35 j = C.1 35 j) 6 (fun r => ∃ Y, r = some Y ∧ (∀ q, q ≠ 35 → Y.1 q = C.1 q) ∧ Y.2 = C.2 ∧ ∀ j, j < 6 → Y.1 35 j = nI (1024 * dn M j)) ?_ ?_ 6 0 4000 (0, C) rfl (by omega) ⟨rfl, fun _ _ => rfl, rfl, fun j hj => absurd hj (by omega), fun _ _ => rfl⟩
  · rintro n i ⟨b, Y⟩ hi ⟨q1, q2, q3, q4, q5⟩
    dsimp only at q1 q2 q3 q4 q5 ⊢
    subst q1
    obtain ⟨e, hd⟩ := h i hi
    have e35 : zshl (Y.1 35 i) 10 = nI (1024 * dn M i) := by rw [q5 i (Nat.le_refl i), e]; exact shl10 _ (by omega)
    refine ⟨(nI (i + 1), zSI Y 35 i (nI (1024 * dn M i))), ⟨rfl, fun q hq => by rw [zSI_other _ _ _ hq]; exact q2 q hq, q3, fun j hj => ?_, fun j hj => ?_⟩, ?_⟩
    · show (zSI Y 35 i _).1 35 j = _
      rw [gSI]
      by_cases c : j = i
      · subst c; rw [if_pos ⟨rfl, rfl⟩]
      · rw [if_neg (fun z => c z.2)]; exact q4 j (by omega)
    · show (zSI Y 35 i _).1 35 j = _
      rw [gSI, if_neg (by omega)]; exact q5 j (by omega)
    · simp only [fX11_tellLooks_L3, if_neg (show ¬ 6 ≤ nI i from leF (a := 6) hi (by omega)), if_pos (zinT hi (show i < 2 ^ 31 by omega)), nI_clamp (show i < 2 ^ 31 by omega), zlet, e35, nI_1]
  · rintro n ⟨b, Y⟩ ⟨q1, q2, q3, q4, q5⟩
    dsimp only at q1 q2 q3 q4 q5 ⊢
    subst q1
    exact ⟨Y, by simp only [fX11_tellLooks_L3, if_pos (show 6 ≤ nI 6 from leT (a := 6) (Nat.le_refl 6) (by omega))], q2, q3, q4⟩
theorem smN_mul (f : Nat → Nat) (c : Nat) : ∀ n, smN (fun j => c * f j) n = c * smN f n
  | 0 => rfl
  | n + 1 => by
    show smN (fun j => c * f j) n + c * f n = c * (smN f n + f n)
    rw [smN_mul f c n, Nat.mul_add]
/-- the reference tells where it looked -/
theorem m_tellL {T : zM} {m : Nat} {l0 : List Int64} {bs : List Nat} {x : Int32} (hx : x = nI m) (hm : m ≤ 10) (hb : bs.length = m) (hl : l0.length = 2) (hR : MR T l0) (h54 : ∀ j b, bs[j]? = some b → T.1 54 j = nI b) : ∃ Z, fX12_looks_L209 x 4000 0 T = some Z ∧ TM T Z ∧ MR Z (l0 ++ bs.map (fun b => (nI b).toInt64)) := by
  subst hx
  have key : ∀ r i n (Y : zM), i + r = m → r < n → TM T Y → MR Y (l0 ++ (bs.take i).map (fun b => (nI b).toInt64)) → ∃ Z, fX12_looks_L209 (nI m) n (nI i) Y = some Z ∧ TM T Z ∧ MR Z (l0 ++ bs.map (fun b => (nI b).toInt64)) := by
    intro r
    induction r with
    | zero =>
      intro i n Y hi hn t r
      obtain ⟨n, rfl⟩ : ∃ q, n = q + 1 := ⟨n - 1, by omega⟩
      have : i = m := by omega
      subst this
      refine ⟨Y, by simp only [fX12_looks_L209, if_pos (leT (Nat.le_refl i) (by omega))], t, ?_⟩
      rw [List.take_of_length_le (by omega)] at r
      exact r
    | succ r ih =>
      intro i n Y hi hn t hr
      obtain ⟨n, rfl⟩ : ∃ q, n = q + 1 := ⟨n - 1, by omega⟩
      have il : i < bs.length := by omega
      have e54 : Y.1 54 i = nI bs[i] := by rw [t.1 54 (by omega)]; exact h54 i _ (List.getElem?_eq_getElem il)
      have hlen : (l0 ++ (bs.take i).map (fun b => (nI b).toInt64)).length < 16 := by
        rw [List.length_append, List.length_map, List.length_take]
        omega
      obtain ⟨Z, e, k⟩ : wpO ((fX12_tell (nI bs[i]).toInt64 Y).bind (fun M224 => fX12_looks_L209 (nI m) n (nI i + 1) M224)) (fun Z => TM T Z ∧ MR Z (l0 ++ bs.map (fun b => (nI b).toInt64))) := by
        refine vM_tell hr hlen (fun Y2 t2 r2 => ?_)
        rw [nI_1]
        refine ih (i + 1) n Y2 (by omega) (by omega) (t.trans t2) ?_
        have : (bs.take (i + 1)).map (fun b => (nI b).toInt64) = (bs.take i).map (fun b => (nI b).toInt64) ++ [(nI bs[i]).toInt64] := by
          rw [List.take_add_one, List.getElem?_eq_getElem il, List.map_append]
          rfl
        rw [this, ← List.append_assoc]
        exact r2
      refine ⟨Z, ?_, k⟩
      rw [← e]
      simp only [fX12_looks_L209, if_neg (leF (show i < m by omega) (by omega)), if_pos (zinT (show i < 10 by omega) (show i < 2 ^ 31 by omega)), nI_clamp (show i < 2 ^ 31 by omega), e54]
  exact key m 0 4000 T (by omega) (by omega) ⟨fun _ _ => rfl, fun _ _ => rfl, fun _ _ => rfl, rfl⟩ (by rw [List.take_zero, List.map_nil, List.append_nil]; exact hR)
theorem lkEnd (x : Int32) (s : Int64) (T : zM) (n : Nat) : fX12_looks_L35 x (n + 1) s (nI 6) T = some (s, T) := by
  simp only [fX12_looks_L35, if_pos (show 6 ≤ nI 6 from leT (a := 6) (Nat.le_refl 6) (by omega))]
theorem op_looks {M : zM} {N : Nat} (h : RAll M N) (y : Int32) : OpS (fX11_looks y) (fX12_looks y) M N := by
  have h0 := h
  obtain ⟨n, nd, h1, h2, h3, h4, h5, h6, h7, h8, h9⟩ := h
  obtain ⟨k, hk, x1, x9, xb, xt⟩ := h3.signs
  rcases split_ix y (n := 11) (by omega) with hy | ⟨m, hm, rfl⟩
  · refine ⟨-200, zSI M 1 1 0, zSI (zSI (zSI M 1 1 0) 36 12 0) 36 9 0, ?_, ?_, ?_⟩
    · unfold fX11_looks
      simp only [zj]
      by_cases c : y < 0
      · rw [if_pos c]; rfl
      · have := (out_lt (n := 11) (by omega) hy c).2
        rw [if_neg c, if_neg ((ile_nlt y 10).mpr (show 10 < y from this))]; rfl
    · unfold fX12_looks
      simp only [zlet]
      rw [if_pos (show fX12_in y 0 10 = 0 from in0 (n := 11) (by omega) hy)]
    · have sm : Sm [1] [9, 12] M (zSI (zSI (zSI M 1 1 0) 36 12 0) 36 9 0) := ((Sm.SI M _ _ (by decide) (by simp)).trans (Sm.SI6 _ _ (by simp))).trans (Sm.SI6 _ _ (by simp))
      exact h0.text sm rfl rfl rfl rfl rfl rfl rfl rfl rfl rfl rfl rfl rfl rfl rfl rfl (h4.of rfl rfl rfl)
  · obtain ⟨D, hD, hP, hF⟩ := exD (dP M) k
    have hD6 : D ≤ 6 := by
      rcases Nat.lt_or_ge 6 D with h | h
      · have := (dP_sIn (hP 6 h)).1
        omega
      · exact h
    have ec := c_digits hk x1 hD hP hF
    obtain ⟨g1, g2, g3⟩ := dgM_spec M D
    generalize hC : zSI (dgM M D) 1 1 0 = C
    have kC : ∀ q, q ≠ 1 → q ≠ 35 → C.1 q = M.1 q := fun q a b => by subst hC; rw [zSI_other _ _ _ a, g2 q b]
    have c2 : C.2 = M.2 := by subst hC; exact g1
    have c11 : C.1 1 1 = 0 := by subst hC; rw [gSI, if_pos ⟨rfl, rfl⟩]
    have c35 : ∀ j, j < D → C.1 35 j = nI (dn M j) ∧ dn M j ≤ 9 := fun j hj => by
      obtain ⟨ed, h9⟩ := dn_eq (hP j hj)
      subst hC; rw [zSI_other _ _ _ (by decide), g3 j hj]; exact ⟨ed, h9⟩
    have m31 : m < 2 ^ 31 := by omega
    have cn0 : ¬ nI m < 0 := nI_nneg m31
    have cn1 : nI m ≤ 10 := leT (b := 10) (by omega) (by omega)
    have mn : ¬ fX12_in (nI m) 0 10 = 0 := by rw [show fX12_in (nI m) 0 10 = 1 from in1 (n := 11) (by omega) hm]; decide
    have beg : ∀ M1 : zM, (∀ q, 36 ≤ q → q < 59 → M1.1 q = M.1 q) → ∃ R, fX12_beginText 6 (zSI M1 36 12 0) = R ∧ TSt (gT M (min k 6)) k 6 R 0 none ∧ (∀ q, q ≠ 36 → R.1 q = M1.1 q) ∧ (∀ j, j ∉ [9, 12, 13, 14, 15, 16, 17] → R.1 36 j = M.1 36 j) ∧ R.2.1 = M1.2.1 ∧ (∀ j, j ≠ 13 → R.2.2 j = M1.2.2 j) ∧ R.1 36 9 = 0 := by
      intro M1 a1
      obtain ⟨R, e, t0, t1, t2, t3, t4, t5⟩ := t_begin (M := M) (R0 := zSI M1 36 12 0) (most := 6) hk (by omega) (by rw [gSI, if_neg (by omega), a1 36 (by omega) (by omega)]; exact x9) (fun j hj => by rw [zSI_other _ _ _ (by decide), a1 41 (by omega) (by omega), xt j hj])
      refine ⟨R, e, t0, fun q hq => by rw [t1 q hq, zSI_other _ _ _ hq], fun j hj => ?_, t3, t4, t5⟩
      simp at hj
      rw [t2 j (by simp; omega), gSI, if_neg (by omega), a1 36 (by omega) (by omega)]
    -- an answer without a row
    have fin : ∀ r, fX11_looks (nI m) M = some (r, C) → (∀ R : zM, fX12_beginText 6 (zSI C 36 12 0) = R → TSt (gT M (min k 6)) k 6 R 0 none → ∃ T, fX12_looks (nI m) C = some (r, T) ∧ FrL R T) → OpS (fX11_looks (nI m)) (fX12_looks (nI m)) M N := by
      intro r e1 hr
      obtain ⟨R, e, t0, t1, t2, t3, t4, t5⟩ := beg C (fun q a b => kC q (by omega) (by omega))
      obtain ⟨T, e2, f1, f2, f3, f4⟩ := hr R e t0
      refine ⟨r, C, T, e1, e2, ?_⟩
      have sm : Sm [1, 35] [9, 12, 13, 14, 15, 16, 17] M T := ⟨fun q a b => by simp at b; rw [f1 q a, t1 q a, kC q (by omega) (by omega)], fun j hj => by simp at hj; rw [f2 j (by omega) (by omega), t2 j (by simp; omega)], by rw [f4, t4 19 (by omega), c2], by rw [f4, t4 20 (by omega), c2]⟩
      refine h0.text sm rfl rfl rfl rfl rfl rfl rfl rfl rfl rfl rfl rfl (by rw [sm.1 0 (by decide) (by decide)]) (by rw [sm.1 0 (by decide) (by decide)]) (by rw [f1 1 (by omega), t1 1 (by omega)]; exact c11) (by rw [f2 9 (by omega) (by omega)]; exact t5) ?_
      obtain ⟨l, hl, c, mm⟩ := h4
      exact ⟨l, hl, c.fr (sm.1 3 (by decide) (by decide)) (by rw [f3 4 (by omega), t3, c2]), mm.fr (sm.2.1 11 (by decide)) (by rw [f3 42 (by omega), t3, c2])⟩
    have neg : -1 - nI D < 0 := by
      rw [Int32.lt_iff_toInt_lt]
      have : (-1 - nI D).toInt = -1 - D := (by decide +kernel : ∀ D, D < 7 → (-1 - nI D).toInt = -1 - (D : Int)) D (by omega)
      rw [this]
      have : (0 : Int32).toInt = 0 := by decide
      omega
    by_cases good : D = 6 ∧ k = 6
    · obtain ⟨d6, k6⟩ := good
      subst d6
      subst k6
      have cl : fX11_looks (nI m) M = (fX11_sumOfDigits C).bind (fun r4 => if (lg_cmp r4 0) = 0 then some ((-100), C) else (fX11_tellLooks (nI m) r4 C).bind fun M73 => some (0, M73)) := by
        unfold fX11_looks
        simp only [zj, if_neg cn0, if_pos cn1, ec, Option.bind_some, zp, if_neg (show ¬ 6 < 6 by omega)]
        rw [show fX9_clear (dgM M 6) = C from hC]
        simp only [zlet, if_pos (show 0 ≤ nI 6 by decide), if_pos (show 6 ≤ nI 6 by decide)]
      have hsum : smN (dn M) 6 ≤ 54 := smN_le (c := 9) (fun i hi => (c35 i hi).2)
      rw [c_sumD c35] at cl
      simp only [Option.bind_some] at cl
      have run : ∀ R : zM, TSt (gT M (min 6 6)) 6 6 R 0 none → ∃ T, fX12_looks_L35 (nI m) 4000 0 0 R = some (lN (1024 * smN (dn M) 6), T) ∧ TSt (gT M (min 6 6)) 6 6 T 6 none ∧ (∀ j, j < 6 → T.2.1 53 j = lN (1024 * dn M j)) ∧ FrL R T := fun R t0 => by
        obtain ⟨T, e, t, v, f⟩ := m_lkRun (x := nI m) hk xb t0 hD hP 6 (Nat.le_refl 6)
        refine ⟨T, ?_, t, v, f⟩
        rw [e, smN_mul]
        exact lkEnd _ _ _ 3993
      by_cases s0 : smN (dn M) 6 = 0
      · refine fin (-100) ?_ (fun R e t0 => ?_)
        · rw [cl, if_pos ((cmp0 (by omega)).mpr s0)]
        · obtain ⟨T, e2, t, v, f⟩ := run R t0
          refine ⟨T, ?_, f⟩
          unfold fX12_looks
          simp only [zlet, if_neg mn, e, e2, Option.bind_some, zp, t_rightK t rfl, show ¬ (1 : Int32) = 0 by decide, if_false]
          rw [if_pos ((cmp0 (by omega)).mpr (by rw [s0]))]
      · -- it goes on
        let s0T : lkT := (fun j => if j < 6 then 1024 * dn M j else 0, 0, [])
        have hI0 : lkI 0 s0T := ⟨fun j hj => by show (if j < 6 then 1024 * dn M j else 0) ≤ 9216; rw [if_pos hj]; have := (c35 j hj).2; omega, Nat.le_refl 0, rfl, fun b hb => by cases hb⟩
        have hIm : lkI m (fd lkS s0T m) := fd_inv (f := lkS) (s := s0T) (fun i s => lkI i s) hI0 (n := m) (fun i s _ h => lkI_step h)
        obtain ⟨Y0, y0, y1, y2, y3⟩ := c_shift (x1 := nI m) (x2 := lN (smN (dn M) 6)) c35
        have S0 : 0 < 1024 * smN (dn M) 6 := by omega
        have hc : wpO (fX11_looks (nI m) M) (fun q => q.1 = 0 ∧ FrK C q.2 ∧ CR q.2 ([lN ((fd lkS s0T m).2.1 / Nat.gcd (fd lkS s0T m).2.1 (1024 * smN (dn M) 6)), lN (1024 * smN (dn M) 6 / Nat.gcd (fd lkS s0T m).2.1 (1024 * smN (dn M) 6))] ++ lkL (fd lkS s0T m))) := by
          rw [cl, if_neg (fun z => s0 ((cmp0 (by omega)).mp z))]
          unfold fX11_tellLooks
          refine wpO_bk (wpO_ek y0 (vC_begin (fun Y1 t1 r1 => ?_)))
          refine vC_frac (a := 0) (b := 1) r1 (Nat.le_of_ble_eq_true rfl) (by omega) (by omega) (by omega) (fun Y2 t2 r2 => ?_)
          have t12 := t1.trans t2
          obtain ⟨Y3, e3, f3, r3⟩ := c_lkL (m := m) (x2 := lN (smN (dn M) 6)) (by omega) hI0 rfl (fun j hj => by rw [t12.1 35 (by omega), y3 j hj]; show _ = nI (if j < 6 then _ else 0); rw [if_pos hj]) r2
          have hlen : (lkL (fd lkS s0T m)).length ≤ 10 := by unfold lkL; rw [List.length_map, hIm.2.2.1]; omega
          have hfd : (fd lkS s0T m).2.1 ≤ 46080 := by have := hIm.2.1; omega
          obtain ⟨Z, e4, t4, r4⟩ := p_put (a := (fd lkS s0T m).2.1) (b := 1024 * smN (dn M) 6) r3 hlen (by omega) (by omega) S0
          refine wpO_ek e3 (wpO_pk ?_)
          rw [lshl10 _ (by omega)]
          exact wpO_ek e4 (wpO_ret (wpO_ret ⟨rfl, (FrK.trans ⟨fun q _ b => y1 q b, fun q _ => by rw [y2], by rw [y2]⟩ t12.K).trans (f3.trans t4.K), r4⟩))
        obtain ⟨⟨r, M1⟩, ef, er, tM, cM⟩ := hc
        dsimp only at er tM cM
        subst er
        have kM1 : ∀ q, q ≠ 1 → q ≠ 3 → q ≠ 35 → M1.1 q = M.1 q := fun q a b c => by rw [tM.1 q b c, kC q a c]
        obtain ⟨R, e, t0, t1, t2, t3, t4, t5⟩ := beg M1 (fun q a b => kM1 q (by omega) (by omega) (by omega))
        obtain ⟨T, e2, t, v, f⟩ := run R t0
        obtain ⟨T2, e3, j1, j2⟩ := m_lkL (R := T) (m := m) (x2 := lN (1024 * smN (dn M) 6)) (by omega) hI0 rfl (fun j hj => by rw [v j hj]; show _ = lN (if j < 6 then _ else 0); rw [if_pos hj])
        have hfd : (fd lkS s0T m).2.1 ≤ 46080 := by have := hIm.2.1; omega
        have hmm : wpO (fX12_looks (nI m) M1) (fun q => q.1 = 0 ∧ TM T2 q.2 ∧ MR q.2 ([lN ((fd lkS s0T m).2.1 / Nat.gcd (fd lkS s0T m).2.1 (1024 * smN (dn M) 6)), lN (1024 * smN (dn M) 6 / Nat.gcd (fd lkS s0T m).2.1 (1024 * smN (dn M) 6))] ++ lkL (fd lkS s0T m))) := by
          unfold fX12_looks
          refine wpO_lk (wpO_fk mn (wpO_lk ?_))
          rw [e]
          refine wpO_ek e2 (wpO_pk (wpO_lk ?_))
          rw [t_rightK t rfl]
          refine wpO_fk (show ¬ (1 : Int32) = 0 by decide) (wpO_fk (fun z => by have := (cmp0 (by omega)).mp z; omega) (wpO_ek e3 (wpO_pk (vM_frac (by omega) (by omega) S0 (fun Y1 u1 r1 => ?_)))))
          obtain ⟨Z, e5, u5, r5⟩ := m_tellL (T := Y1) (m := m) (bs := (fd lkS s0T m).2.2) rfl (by omega) hIm.2.2.1 rfl r1 (fun j b hb => by rw [u1.1 54 (by omega)]; exact j2 j b hb)
          exact wpO_ek e5 (wpO_ret ⟨rfl, u1.trans u5, r5⟩)
        obtain ⟨⟨r', Z⟩, eg, er', tZ, mZ⟩ := hmm
        dsimp only at er' tZ mZ
        refine ⟨0, M1, Z, ef, by rw [eg, er'], ?_⟩
        have kZ : ∀ q, q ≠ 36 → q ≠ 54 → Z.1 q = M1.1 q := fun q q1 q2 => by rw [tZ.1 q q1, j1.1 q q2, f.1 q q1, t1 q q1]
        have sm : Sm [1, 3, 35, 54] [9, 11, 12, 13, 14, 15, 16, 17] M Z := ⟨fun q q1 q2 => by simp at q2; rw [kZ q q1 (by omega), kM1 q (by omega) (by omega) (by omega)], fun j hj => by simp at hj; rw [tZ.2.1 j (by omega), j1.1 36 (by omega), f.2.1 j (by omega) (by omega), t2 j (by simp; omega)], by rw [tZ.2.2.2, j1.2.2, f.2.2.2, t4 19 (by omega), tM.2.2, c2], by rw [tZ.2.2.2, j1.2.2, f.2.2.2, t4 20 (by omega), tM.2.2, c2]⟩
        refine h0.text sm rfl rfl rfl rfl rfl rfl rfl rfl rfl rfl rfl rfl (by rw [sm.1 0 (by decide) (by decide)]) (by rw [sm.1 0 (by decide) (by decide)]) (by rw [kZ 1 (by omega) (by omega), tM.1 1 (by omega) (by omega)]; exact c11) (by rw [tZ.2.1 9 (by omega), j1.1 36 (by omega), f.2.1 9 (by omega) (by omega)]; exact t5) ⟨_, ?_, cM.fr (kZ 3 (by omega) (by omega)) (by rw [tZ.2.2.1 4 (by omega), j1.2.1 4 (by omega), f.2.2.1 4 (by omega), t3]), mZ⟩
        rw [List.length_append]
        unfold lkL
        rw [List.length_map, hIm.2.2.1]
        show 2 + m ≤ 16
        omega
    · -- it is not told rightly
      refine fin (-1 - nI D) ?_ (fun R e t0 => ?_)
      · unfold fX11_looks
        simp only [zj, if_neg cn0, if_pos cn1, ec, Option.bind_some, zp]
        rw [show fX9_clear (dgM M D) = C from hC]
        simp only [zlet]
        rcases Nat.lt_or_ge D k with c | c
        · rw [if_pos c, if_neg ((ile_nlt _ _).mpr neg)]
        · have ek : k = D := by omega
          rw [if_neg (show ¬ D < k by omega), if_pos (nI_pos' (show k < 2 ^ 31 by omega)), if_neg (show ¬ 6 ≤ nI k from leF (a := 6) (by omega) (by omega)), ek]
      · rcases Nat.lt_or_ge D 6 with c6 | c6
        · obtain ⟨z, T, e2, t, f⟩ := m_lkBad (x := nI m) hk xb t0 hD hP hF c6
          refine ⟨T, ?_, f⟩
          unfold fX12_looks
          have v17 : T.1 36 17 = nI D := t.1.2.2.2
          simp only [zlet, if_neg mn, e, e2, Option.bind_some, zp, t_right0 t, if_true, v17]
        · have d6 : D = 6 := by omega
          subst d6
          obtain ⟨T, e2, t, v, f⟩ := m_lkRun (x := nI m) hk xb t0 hD hP 6 (Nat.le_refl 6)
          have e3 : fX12_looks_L35 (nI m) 4000 0 0 R = some (lN (smN (fun j => 1024 * dn M j) 6), T) := by
            rw [e2]
            exact lkEnd _ _ _ 3993
          refine ⟨zSI T 36 17 (nI 6), ?_, f.trans ⟨fun q hq => zSI_other _ _ _ hq, fun j _ j2 => by rw [gSI, if_neg (by omega)], fun _ _ => rfl, rfl⟩⟩
          unfold fX12_looks
          have v17 : (zSI T 36 17 (nI 6)).1 36 17 = nI 6 := by rw [gSI, if_pos ⟨rfl, rfl⟩]
          simp only [zlet, if_neg mn, e, e3, Option.bind_some, zp, t_rightF t (show 6 < k by omega), if_true, v17]
