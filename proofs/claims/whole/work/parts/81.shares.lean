/-! shares -/
def C28 (M Z : zM) : Prop := Z.2 = M.2 ∧ ∀ k, k ≠ 15 → k ≠ 16 → k ≠ 28 → Z.1 k = M.1 k
theorem C28.refl (M : zM) : C28 M M := ⟨rfl, fun _ _ _ _ => rfl⟩
theorem C28.trans {A B C : zM} (h : C28 A B) (g : C28 B C) : C28 A C := ⟨g.1.trans h.1, fun k a b c => (g.2 k a b c).trans (h.2 k a b c)⟩
theorem C28.SI (M : zM) (j : Nat) (x : Int32) : C28 M (zSI M 28 j x) := ⟨rfl, fun _ _ _ c => zSI_other _ _ _ c⟩
theorem FrV.C28 {A B : zM} (h : FrV 13 A B) : C28 A B := ⟨h.2, fun k a b _ => h.1 k a b⟩
section GAIN
variable {B C : zM} {n nd L S : Nat} {c : Nat → Nat} {l : List Int32} {v : (Nat → Int32) → Int32}
def CGn (B : zM) (L : Nat) (c : Nat → Nat) (C : zM) : Prop := CE B C 60 ∧ ∀ i, i < L → C.1 27 i = nI (c i)
theorem C28.G {D : zM} (h : C28 C D) (g : CGn B L c C) : CGn B L c D := by
  obtain ⟨⟨e1, e2, e3, e4, e5, e6, e7, e8⟩, e9⟩ := g
  have k : ∀ k, k ≠ 15 → k ≠ 16 → k ≠ 28 → D.1 k = C.1 k := h.2
  exact ⟨⟨(k 5 (by omega) (by omega) (by omega)).trans e1, (k 6 (by omega) (by omega) (by omega)).trans e2, (k 7 (by omega) (by omega) (by omega)).trans e3, (k 13 (by omega) (by omega) (by omega)).trans e4, (k 14 (by omega) (by omega) (by omega)).trans e5, (k 60 (by omega) (by omega) (by omega)).trans e6, (k 63 (by omega) (by omega) (by omega)).trans e7, by rw [k 0 (by omega) (by omega) (by omega)]; exact e8⟩, fun i hi => by rw [k 27 (by omega) (by omega) (by omega)]; exact e9 i hi⟩
theorem c_gainS (hS : RS B n nd) (hW : RW B n 60 37 0) (hR : RV B l v S) (hL : L ≤ 6) {i : Nat} (hi : i < L) (g : CGn B L c C) (x1 : Int32) : ∃ Z, fX11_shares_L58 x1 (nI i) 4000 0 C = some Z ∧ C28 C Z ∧ (∀ t, t < n → Z.1 28 (i * 8 + t) = wrB B L c v (L - 1 - i) t) ∧ ∀ j, j < i * 8 → Z.1 28 j = C.1 28 j := by
  have h8 := hS.1.1
  refine zforI (fun k (s : Int32 × zM) => fX11_shares_L58 x1 (nI i) k s.1 s.2) (fun t s => s.1 = nI t ∧ C28 C s.2 ∧ (∀ t', t' < t → s.2.1 28 (i * 8 + t') = wrB B L c v (L - 1 - i) t') ∧ ∀ j, j < i * 8 → s.2.1 28 j = C.1 28 j) n (fun o => ∃ Z, o = some Z ∧ C28 C Z ∧ (∀ t, t < n → Z.1 28 (i * 8 + t) = wrB B L c v (L - 1 - i) t) ∧ ∀ j, j < i * 8 → Z.1 28 j = C.1 28 j) ?_ ?_ n 0 4000 (0, C) (by omega) (by omega) ⟨rfl, C28.refl C, fun t' ht' => absurd ht' (by omega), fun _ _ => rfl⟩
  · rintro k t ⟨b, Z⟩ ht ⟨q1, q2, q3, q4⟩
    dsimp only at q1 q2 q3 q4 ⊢
    subst q1
    have gZ := q2.G g
    have e53 : Z.1 5 3 = nI n := by rw [gZ.1.1]; exact hS.2.1.1
    obtain ⟨⟨r, T⟩, e1, e2, e3⟩ := c_mt (a := 37) (told := nI (c i)) (N := Z) hS hW rfl hR ht gZ.1
    dsimp only at e2 e3
    have eT : T.1 28 = Z.1 28 := e3.1 28 (by omega) (by omega)
    refine ⟨(nI (t + 1), zSI T 28 (i * 8 + t) (fX11_putBetween r (-999) 999)), ⟨rfl, (q2.trans e3.C28).trans (C28.SI _ _ _), fun t' h1 => ?_, fun j hj => ?_⟩, ?_⟩
    · show (zSI T 28 (i * 8 + t) (fX11_putBetween r (-999) 999)).1 28 (i * 8 + t') = _
      rw [gSI]
      by_cases cu : t' = t
      · subst cu
        rw [if_pos ⟨rfl, rfl⟩, e2]
        unfold wrB
        rw [show L - 1 - (L - 1 - i) = i by omega]
        rfl
      · rw [if_neg (by omega), eT]
        exact q3 t' (by omega)
    · show (zSI T 28 (i * 8 + t) (fX11_putBetween r (-999) 999)).1 28 j = _
      rw [gSI, if_neg (by omega), eT]
      exact q4 j hj
    · rw [fX11_shares_L58.eq_2, e53, if_neg (leF ht (by omega)), if_pos (zinT (show i < 6 by omega) (by omega)), nI_clamp (show i < 2 ^ 31 by omega), gZ.2 i hi, e1, Option.bind_some, zp_mk, show nI i * 8 = nI (i * 8) from pk_mul i 8, nI_add, if_pos (zinT (show i * 8 + t < 48 by omega) (by omega)), nI_clamp (show i * 8 + t < 2 ^ 31 by omega), nI_1]
      rfl
  · rintro k ⟨b, Z⟩ ⟨q1, q2, q3, q4⟩
    dsimp only at q1 q2 q3 q4 ⊢
    subst q1
    have e53 : Z.1 5 3 = nI n := by rw [(q2.G g).1.1]; exact hS.2.1.1
    exact ⟨Z, by rw [fX11_shares_L58.eq_2, e53, if_pos (leT (Nat.le_refl n) (by omega))], q2, q3, q4⟩
theorem c_gain (hS : RS B n nd) (hW : RW B n 60 37 0) (hR : RV B l v S) (hL : L ≤ 6) (g : CGn B L c C) : ∃ Z, fX11_shares_L51 (nI L) 4000 0 C = some Z ∧ C28 C Z ∧ gnC n L (wrB B L c v) Z := by
  have h8 := hS.1.1
  refine zforI (fun k (s : Int32 × zM) => fX11_shares_L51 (nI L) k s.1 s.2) (fun i s => s.1 = nI i ∧ C28 C s.2 ∧ ∀ i' t, i' < i → t < n → s.2.1 28 (i' * 8 + t) = wrB B L c v (L - 1 - i') t) L (fun o => ∃ Z, o = some Z ∧ C28 C Z ∧ gnC n L (wrB B L c v) Z) ?_ ?_ L 0 4000 (0, C) (by omega) (by omega) ⟨rfl, C28.refl C, fun i' t h => absurd h (by omega)⟩
  · rintro k i ⟨b, Z⟩ hi ⟨q1, q2, q3⟩
    dsimp only at q1 q2 q3 ⊢
    subst q1
    obtain ⟨Y, e1, e2, e3, e4⟩ := c_gainS hS hW hR hL hi (q2.G g) (nI L)
    refine ⟨(nI (i + 1), Y), ⟨rfl, q2.trans e2, fun i' t h1 h2 => ?_⟩, ?_⟩
    · rcases Nat.lt_or_ge i' i with z | z
      · show Y.1 28 (i' * 8 + t) = _
        rw [e4 _ (by omega)]
        exact q3 i' t z h2
      · have : i' = i := by omega
        subst this
        exact e3 t h2
    · rw [fX11_shares_L51.eq_2, if_neg (leF hi (by omega)), e1, Option.bind_some, nI_1]
  · rintro k ⟨b, Z⟩ ⟨q1, q2, q3⟩
    dsimp only at q1 q2 q3 ⊢
    subst q1
    exact ⟨Z, by rw [fX11_shares_L51.eq_2, if_pos (leT (Nat.le_refl L) (by omega))], q2, q3⟩
end GAIN
theorem op_shares {M : zM} {N : Nat} (h : RAll M N) : OpS fX11_shares fX12_shares M N := by
  have h0 := h
  obtain ⟨n, nd, hS, hW, hX, hO, hP, hK, hC, hH, hU⟩ := h
  have h8 := hS.1.1
  obtain ⟨k, hk, x1, x9, xb, xt⟩ := hX.signs
  obtain ⟨lv, v, S, hR⟩ := hU
  have hR : RV M lv v S := hR
  have hA : AR M 44 S v := ⟨hC.2.2.2.2.1, Or.inl rfl, hR.2.2.1, hR.2.2.2⟩
  have beg : ∀ M1 : zM, (∀ q, 36 ≤ q → q < 59 → M1.1 q = M.1 q) → ∃ R, fX12_beginText 80 (zSI M1 36 12 0) = R ∧ TSt (gT M (min k 80)) k 80 R 0 none ∧ (∀ q, q ≠ 36 → R.1 q = M1.1 q) ∧ (∀ j, j ∉ [9, 12, 13, 14, 15, 16, 17] → R.1 36 j = M.1 36 j) ∧ R.2.1 = M1.2.1 ∧ (∀ j, j ≠ 13 → R.2.2 j = M1.2.2 j) ∧ R.1 36 9 = 0 := by
    intro M1 a1
    obtain ⟨R, e, t0, t1, t2, t3, t4, t5⟩ := t_begin (M := M) (R0 := zSI M1 36 12 0) (most := 80) hk (by omega) (by rw [gSI, if_neg (by omega), a1 36 (by omega) (by omega)]; exact x9) (fun j hj => by rw [zSI_other _ _ _ (by decide), a1 41 (by omega) (by omega), xt j hj])
    refine ⟨R, e, t0, fun q hq => by rw [t1 q hq, zSI_other _ _ _ hq], fun j hj => ?_, t3, t4, t5⟩
    simp at hj
    rw [t2 j (by simp; omega), gSI, if_neg (by omega), a1 36 (by omega) (by omega)]
  -- accepted: L lines, c of them
  have go : ∀ (L : Nat) (c : Nat → Nat) (Ca : zM), L ≤ 6 → Cl 27 0 M Ca → (∀ i, i < L → Ca.1 27 i = nI (c i)) → (if fX9_isEmpty M = 0 then (fX9_readSets 97 8 80 27 0 M).bind fun (q : Int32 × zM) => zp q fun r3 M32 => some (r3, M32) else some (0, M) : Option (Int32 × zM)) = some (nI L, Ca) → (∀ R : zM, TSt (gT M (min k 80)) k 80 R 0 none → ∃ T, fX12_shares_L26 4000 0 (if R.1 36 14 ≤ 0 then 0 else 1) R = some (nI L, T) ∧ fX12_wasRight T = (1, T) ∧ FrH R T ∧ ∀ i, i < L → T.1 43 i = nI (c i)) → OpS fX11_shares fX12_shares M N := by
    intro L c Ca hL cl cc ec hm
    have kCa : ∀ q, q ≠ 1 → q ≠ 27 → (zSI Ca 1 1 0).1 q = M.1 q := fun q a b => by rw [zSI_other _ _ _ a, cl.2.1 q b]
    have g0 : CGn M L c (zSI Ca 1 1 0) := ⟨⟨kCa 5 (by omega) (by omega), kCa 6 (by omega) (by omega), kCa 7 (by omega) (by omega), kCa 13 (by omega) (by omega), kCa 14 (by omega) (by omega), kCa 60 (by omega) (by omega), kCa 63 (by omega) (by omega), by rw [kCa 0 (by omega) (by omega)]⟩, fun i hi => by rw [zSI_other _ _ _ (by decide)]; exact cc i hi⟩
    obtain ⟨C1, e1, f1, gn⟩ := c_gain hS hW hR hL g0
    obtain ⟨I, hI, eI⟩ := bsN (p := fun t => decide (M.1 37 t = 2)) (n := n) (by omega)
    have inC : fX10_inside 60 C1 = some (nI I) := by
      rw [pX10_inside rfl, f1.2 63 (by omega) (by omega) (by omega), kCa 63 (by omega) (by omega), ← eI]
      have := RW_in hW h8
      simp only [Nat.zero_add] at this
      exact congrArg some this
    obtain ⟨C2, e2, f2, tb⟩ := c_work (wr := wrB M L c v) h8 hL hI gn
    have p2 := Nat.two_pow_pos n
    have hc : wpO (fX11_shares M) (fun q => q.1 = bst I (wrB M L c v) L 0 ∧ TC C2 q.2 ∧ CR q.2 (tl I (wrB M L c v) L 0)) := by
      unfold fX11_shares
      refine wpO_ek ec (wpO_pk (wpO_lk ?_))
      refine wpO_tk (show 0 ≤ nI L from nI_pos' (by omega)) (wpO_ek (v := C1) e1 (wpO_ek inC (wpO_ek e2 ?_)))
      have tt : wpO (fX11_tellShares (nI L) (nI I) C2) (fun Z => TC C2 Z ∧ CR Z (tl I (wrB M L c v) L 0)) := by
        unfold fX11_tellShares
        refine vC_begin (fun N1 t1 r1 => ?_)
        obtain ⟨Z, g1, g2, g3⟩ := c_tells (wr := wrB M L c v) h8 hL hI L 0 0 4000 N1 [] (by omega) (by omega) p2 (sub_0 I) (fun a b ha hb => by rw [t1.1 28 (by omega)]; exact (f2.gn gn) a b ha hb) (fun a a1 a2 b b1 b2 => by rw [t1.1 29 (by omega)]; exact tb a a1 a2 b b1 b2) r1 (by show 0 + L ≤ 16; omega)
        exact wpO_ek (v := Z) g1 (wpO_ret ⟨t1.trans g2, g3⟩)
      obtain ⟨Z, e3, t3, r3⟩ := tt
      refine wpO_ek e3 (wpO_ret ⟨?_, t3, r3⟩)
      have := tb 0 (Nat.le_refl 0) (Nat.zero_le L) 0 p2 (sub_0 I)
      show Z.1 29 0 = _
      rw [t3.1 29 (by omega)]
      exact this
    obtain ⟨⟨r1, M1⟩, e3, rfl, t1, cr⟩ := hc
    dsimp only at t1 cr
    have kM1 : ∀ q, q ≠ 1 → q ≠ 3 → q ≠ 15 → q ≠ 16 → q ≠ 27 → q ≠ 28 → q ≠ 29 → M1.1 q = M.1 q := fun q a b d e f g i => by rw [t1.1 q b, f2.2 q i, f1.2 q d e g, kCa q a f]
    have s2 : M1.2.2 = M.2.2 := by rw [t1.2.2, f2.1, f1.1]; show Ca.2.2 = _; rw [cl.1]
    obtain ⟨R0, b0, b1, b2, b3, b4, b5, b6⟩ := beg M1 (fun q a b => kM1 q (by omega) (by omega) (by omega) (by omega) (by omega) (by omega) (by omega))
    obtain ⟨T, m1, m2, m3, m4⟩ := hm R0 b1
    have jT : ∀ j, j ∉ [9, 12, 13, 14, 15, 16, 17] → T.1 36 j = M.1 36 j := fun j hj => by simp at hj; rw [m3.2.1 j (by omega) (by omega), b3 j (by simp; omega)]
    have kT : ∀ q, q ≠ 36 → q ≠ 43 → T.1 q = M1.1 q := fun q a b => by rw [m3.1 q a b, b2 q a]
    have kT' : ∀ q, 36 < q → q < 59 → q ≠ 43 → T.1 q = M.1 q := fun q a b d => by rw [kT q (by omega) d, kM1 q (by omega) (by omega) (by omega) (by omega) (by omega) (by omega) (by omega)]
    have sT : SR M L c T := ⟨⟨jT 1 (by decide), kT' 38 (by omega) (by omega) (by omega), kT' 39 (by omega) (by omega) (by omega), kT' 37 (by omega) (by omega) (by omega), kT' 44 (by omega) (by omega) (by omega), jT 21 (by decide), jT 4 (by decide), by rw [m3.2.2, b5 19 (by omega), s2]⟩, m4⟩
    have inR : fX12_those 37 2 T = some (nI I) := by
      rw [pX12_those (n := n) (by rw [jT 1 (by decide)]; exact hS.2.1.2.1) h8 rfl, kT' 37 (by omega) (by omega) (by omega), eI]
    obtain ⟨R1, n1, n2, n3⟩ := m_zero (L := L) (R := T) h8 hL (by rw [jT 1 (by decide)]; exact hS.2.1.2.1) (nI I)
    obtain ⟨R2, o1, o2, o3⟩ := m_rows (c := c) hA h8 hL hI hS.2.1.2.1 (nI L) L 4000 R1 (Nat.le_refl L) (by omega) (n2.SR sT) (fun i' h1 h2 u hu => by
      have : i' = L := by omega
      subst this
      rw [n3 u hu, Nat.sub_self]; rfl)
    have hmm : wpO (fX12_shares M1) (fun q => q.1 = bst I (wrB M L c v) L 0 ∧ G51 R2 q.2 ∧ MR q.2 (tl I (wrB M L c v) L 0)) := by
      unfold fX12_shares
      refine wpO_lk (wpO_lk ?_)
      rw [b0]
      refine wpO_lk (wpO_ek m1 (wpO_pk (wpO_lk ?_)))
      rw [m2]
      refine wpO_fk (show ¬ (1 : Int32) = 0 by decide) (wpO_ek inR (wpO_ek n1 (wpO_lk (wpO_ek o1 (vM_begin (fun N1 t1 r1 => ?_))))))
      have gN := t1.G51
      obtain ⟨Z, g1, g2, g3⟩ := m_tells (c := c) hA h8 hL hI L 0 0 4000 N1 [] (by omega) (by omega) p2 (gN.SR (o2.SR (n2.SR sT))) (fun a a1 a2 b b1 => by rw [gN.1 51 (by omega) (by omega)]; exact o3 a a1 a2 b b1) r1 (by show 0 + L ≤ 16; omega)
      refine wpO_ek (v := Z) g1 (wpO_ret ⟨?_, gN.trans g2, g3⟩)
      have := o3 0 (Nat.le_refl 0) (Nat.zero_le L) 0 p2
      show Z.1 51 0 = _
      rw [(gN.trans g2).1 51 (by omega) (by omega)]
      exact this
    obtain ⟨⟨r2, Z⟩, e4, rfl, t2, mr⟩ := hmm
    dsimp only at t2 mr
    have kZ : ∀ q, q ≠ 36 → q ≠ 43 → q ≠ 46 → q ≠ 51 → Z.1 q = M1.1 q := fun q a b d e => by rw [t2.1 q a d, o2.1 q a d e, n2.1 q a d e, kT q a b]
    have jZ : ∀ j, j ∉ [9, 11, 12, 13, 14, 15, 16, 17, 22] → Z.1 36 j = M.1 36 j := fun j hj => by simp at hj; rw [t2.2.1 j (by omega) (by omega) (by omega), o2.2.1 j (by omega) (by omega), n2.2.1 j (by omega) (by omega), jT j (by simp; omega)]
    have zZ : ∀ j, j ≠ 13 → Z.2.2 j = M.2.2 j := fun j hj => by rw [t2.2.2.2 j hj, o2.2.2.2 j hj, n2.2.2.2 j hj, m3.2.2, b5 j hj, s2]
    have sm : Sm [1, 3, 15, 16, 27, 28, 29, 43, 46, 51] [9, 11, 12, 13, 14, 15, 16, 17, 22] M Z := ⟨fun q a b => by simp at b; rw [kZ q a (by omega) (by omega) (by omega), kM1 q (by omega) (by omega) (by omega) (by omega) (by omega) (by omega) (by omega)], jZ, zZ 19 (by omega), zZ 20 (by omega)⟩
    refine ⟨_, M1, Z, e3, e4, h0.text sm rfl rfl rfl rfl rfl rfl rfl rfl rfl rfl rfl rfl (by rw [sm.1 0 (by decide) (by decide)]) (by rw [sm.1 0 (by decide) (by decide)]) ?_ ?_ ⟨_, by rw [tl_len]; omega, cr.fr (kZ 3 (by omega) (by omega) (by omega) (by omega)) ?_, mr⟩⟩
    · rw [kZ 1 (by omega) (by omega) (by omega) (by omega), t1.1 1 (by omega), f2.2 1 (by omega), f1.2 1 (by omega) (by omega) (by omega), gSI, if_pos ⟨rfl, rfl⟩]
    · rw [t2.2.1 9 (by omega) (by omega) (by omega), o2.2.1 9 (by omega) (by omega), n2.2.1 9 (by omega) (by omega), m3.2.1 9 (by omega) (by omega)]; exact b6
    · rw [t2.2.2.1 4 (by omega), o2.2.2.1, n2.2.2.1, m3.2.2, b4]
  rcases Nat.eq_zero_or_pos k with hz | hz
  · subst hz
    refine go 0 (fun _ => 0) M (by omega) ⟨rfl, fun _ _ => rfl, fun j hj => absurd hj (by omega)⟩ (fun i hi => absurd hi (by omega)) ?_ (fun R t => ?_)
    · have ie : ¬ fX9_isEmpty M = 0 := by unfold fX9_isEmpty; rw [x1, if_pos (show nI 0 = 0 from rfl)]; decide
      rw [if_neg ie]; rfl
    · refine ⟨R, ?_, t_rightK t rfl, ⟨fun _ _ _ => rfl, fun _ _ _ => rfl, rfl⟩, fun i hi => absurd hi (by omega)⟩
      rw [t.1.1, if_pos (show nI 0 ≤ 0 by decide)]
      have : ∀ m, fX12_shares_L26 (m + 1) 0 0 R = some (0, R) := fun m => by rw [fX12_shares_L26.eq_2, if_pos rfl]
      exact this 3999
  · have ie : fX9_isEmpty M = 0 := by unfold fX9_isEmpty; rw [x1, if_neg (nI_ne0 hz (by omega))]
    have hg := GT_of (most := 80) xb
    obtain ⟨r, Ca, ec, cl, hr⟩ := c_sets (M := M) (most := 80) (a := 27) (cap := 6) (from0 := 0) (f := 97) (many := 8) hk (by omega) x1 xb (Or.inr rfl) (by omega) rfl (by decide) (by omega) (by omega)
    have ec' : fX9_readSets 97 8 80 27 0 M = some (r, Ca) := ec
    have mL : ∀ R : zM, TSt (gT M (min k 80)) k 80 R 0 none → _ := fun R t => m_sharesL (base := 0) (many := 8) hg (by omega) rfl rfl (6 - 0 + 1) 0 0 4000 R (by omega) (by omega) (by omega) (Nat.zero_le _) t
    have ok := pLn_ok (base := 0) (cap := 6) hg (fun p hp => rdS_ok (f := 97) (many := 8) hg (by omega) hp) (6 - 0 + 1) 0 0 (Nat.zero_le _) (by omega)
    generalize pLn (rdS (gT M (min k 80)) 97 8) (gT M (min k 80)) 0 6 (6 - 0 + 1) 0 0 = o at hr mL ok
    have n0 : ∀ R : zM, TSt (gT M (min k 80)) k 80 R 0 none → ¬ R.1 36 14 ≤ 0 := fun R t => by rw [t.1.1]; exact leF (b := 0) hz (by omega)
    have bad : ∀ e, e ≤ 80 → r = -1 - nI e → (∀ R : zM, TSt (gT M (min k 80)) k 80 R 0 none → ∃ x T0 T, fX12_shares_L26 4000 0 1 R = some (x, T0) ∧ fX12_wasRight T0 = (0, T) ∧ T.1 36 17 = nI e ∧ FrH R T) → OpS fX11_shares fX12_shares M N := by
      intro e he er hR'
      obtain ⟨R, eb, t0, t1, t2, t3, t4, t5⟩ := beg (zSI Ca 1 1 0) (fun q a b => by rw [zSI_other _ _ _ (by omega), cl.2.1 q (by omega)])
      obtain ⟨x, T0, T, g1, g2, g3, g4⟩ := hR' R t0
      have sm : Sm [1, 27, 43] [9, 12, 13, 14, 15, 16, 17] M T := ⟨fun q a b => by simp at b; rw [g4.1 q a (by omega), t1 q a, zSI_other _ _ _ (by omega), cl.2.1 q (by omega)], fun j hj => by simp at hj; rw [g4.2.1 j (by omega) (by omega), t2 j (by simp; omega)], by rw [g4.2.2, t4 19 (by omega)]; show Ca.2.2 19 = _; rw [cl.1], by rw [g4.2.2, t4 20 (by omega)]; show Ca.2.2 20 = _; rw [cl.1]⟩
      refine ⟨-1 - nI e, zSI Ca 1 1 0, T, ?_, ?_, h0.text sm rfl rfl rfl rfl rfl rfl rfl rfl rfl rfl rfl rfl (by rw [sm.1 0 (by decide) (by decide)]) (by rw [sm.1 0 (by decide) (by decide)]) ?_ ?_ ?_⟩
      · unfold fX11_shares
        rw [if_pos ie, ec']
        simp only [Option.bind_some, zp, zlet]
        rw [er, if_neg (fun z => by
          have n1 := negE e he
          rw [Int32.le_iff_toInt_le] at z n1
          have h00 : (0 : Int32).toInt = 0 := by decide
          have e2 : (-1 - nI e).toInt = -1 - (e : Int) := by
            rw [Int32.toInt_sub, nI_toInt (by omega), show (-1 : Int32).toInt = -1 by decide]
            exact Int.bmod_eq_of_le (by omega) (by omega)
          rw [e2] at z
          omega)]
        rfl
      · unfold fX12_shares
        simp only [zlet, eb, if_neg (n0 R t0), g1, Option.bind_some, zp, g2, if_true, g3]
      · rw [g4.1 1 (by omega) (by omega), t1 1 (by omega), gSI, if_pos ⟨rfl, rfl⟩]
      · rw [g4.2.1 9 (by omega) (by omega)]; exact t5
      · exact hO.of (sm.1 3 (by decide) (by decide)) (sm.2.1 11 (by decide)) (by rw [g4.2.2, t3]; show Ca.2.1 = _; rw [cl.1])
    match o, hr, mL, ok with
    | .inl e, hr, mL, ok =>
      refine bad e (by have : e ≤ min k 80 := ok; omega) hr (fun R t => ?_)
      obtain ⟨x, T, p, g1, g2, g3⟩ := mL R t
      exact ⟨x, T, T, g1, t_right0 g2, g2.1.2.2.2, g3⟩
    | .inr (l, q), hr, mL, ok =>
      dsimp only at hr
      have okq : q ≤ min k 80 := ok.2.2.1
      by_cases cq : q = k
      · rw [if_pos cq] at hr
        obtain ⟨er, el⟩ := hr
        have okL := ok.2.1
        rw [Nat.add_zero, Nat.zero_add] at okL
        refine go l.length (fun i => l[i]?.getD 0) Ca okL cl (fun i hi => ?_) ?_ (fun R t => ?_)
        · have hi' : l[i]? = some l[i] := List.getElem?_eq_getElem hi
          have := el i _ hi'
          rw [Nat.zero_add] at this
          rw [this, hi']; rfl
        · rw [if_pos ie, ec', Option.bind_some, zp_mk, er]
        · rw [if_neg (n0 R t)]
          obtain ⟨T, g1, g2, g3, g4, -⟩ := mL R t
          rw [Nat.zero_add] at g1
          refine ⟨T, g1, t_rightK g2 cq, g4, fun i hi => ?_⟩
          have hi' : l[i]? = some l[i] := List.getElem?_eq_getElem hi
          have := g3 i _ hi'
          rw [Nat.zero_add] at this
          rw [this, hi']; rfl
      · rw [if_neg cq] at hr
        refine bad q (by omega) hr (fun R t => ?_)
        obtain ⟨T, g1, g2, g3, g4, -⟩ := mL R t
        exact ⟨_, T, zSI T 36 17 (nI q), g1, t_rightF g2 (by omega), by rw [gSI, if_pos ⟨rfl, rfl⟩], g4.trans (FrI.flt T _).H⟩
