/-! THE WHOLE RELATION, and calls that change what lasts -/
def RAll (M : zM) (N : Nat) : Prop := ∃ n nd, RS M n nd ∧ RW M n 60 37 0 ∧ RX M ∧ RO M ∧ RP M n ∧ RK M n N ∧ RC M ∧ RH M ∧ RU M
def OpS (f g : zM → Option (Int32 × zM)) (M : zM) (N : Nat) : Prop := ∃ r M1 M2, f M = some (r, M1) ∧ g M1 = some (r, M2) ∧ RAll M2 (N + 1)
theorem OpQ.toS {f g : zM → Option (Int32 × zM)} {M : zM} {N : Nat} (h : RAll M N) (q : OpQ f g M) : OpS f g M N := by
  obtain ⟨n, nd, h1, h2, h3, h4, h5, h6, h7, h8, h9⟩ := h
  obtain ⟨r, M1, M2, e1, e2, f, o⟩ := q
  exact ⟨r, M1, M2, e1, e2, n, nd, h1.fr f, RW60.fr f h2, h3.fr f, o, h5.fr f, (h6.fr f).up, h7.fr f, h8.fr f, h9.fr f⟩
/-- all is the same but the rows in l and the reference's slots in J -/
def Sm (l J : List Nat) (M N : zM) : Prop := (∀ k, k ≠ 36 → k ∉ l → N.1 k = M.1 k) ∧ (∀ j, j ∉ J → N.1 36 j = M.1 36 j) ∧ N.2.2 19 = M.2.2 19 ∧ N.2.2 20 = M.2.2 20
theorem Sm.refl {l J : List Nat} (M : zM) : Sm l J M M := ⟨fun _ _ _ => rfl, fun _ _ => rfl, rfl, rfl⟩
theorem Sm.trans {l J : List Nat} {A B C : zM} (h : Sm l J A B) (g : Sm l J B C) : Sm l J A C := ⟨fun k a b => (g.1 k a b).trans (h.1 k a b), fun j a => (g.2.1 j a).trans (h.2.1 j a), g.2.2.1.trans h.2.2.1, g.2.2.2.trans h.2.2.2⟩
theorem Sm.SI {l J : List Nat} (M : zM) {k : Nat} (j : Nat) (x : Int32) (h : k ≠ 36) (hk : k ∈ l) : Sm l J M (zSI M k j x) := ⟨fun a _ hl => zSI_other M j x (fun z => hl (z ▸ hk)), fun b _ => by rw [zSI_other M j x (Ne.symm h)], rfl, rfl⟩
theorem Sm.SI6 {l J : List Nat} (M : zM) {j : Nat} (x : Int32) (hj : j ∈ J) : Sm l J M (zSI M 36 j x) := ⟨fun a ha _ => zSI_other M j x ha, fun b hb => by rw [gSI]; exact if_neg (fun z => hb (by rw [z.2]; exact hj)), rfl, rfl⟩
theorem Sm.SA {l J : List Nat} (M : zM) {k : Nat} (f : Nat → Int32) (h : k ≠ 36) (hk : k ∈ l) : Sm l J M (zSA M k f) := ⟨fun a _ hl => by rw [gSA]; exact if_neg (fun z => hl (by rw [z]; exact hk)), fun b _ => by rw [gSA, if_neg (Ne.symm h)], rfl, rfl⟩
theorem Sm.SJ {l J : List Nat} (M : zM) (k j : Nat) (x : Int64) : Sm l J M (zSJ M k j x) := ⟨fun _ _ _ => rfl, fun _ _ => rfl, rfl, rfl⟩
theorem Sm.SD {l J : List Nat} (M : zM) (x : Option Nat) : Sm l J M (zSD M 13 x) := ⟨fun _ _ _ => rfl, fun _ _ => rfl, rfl, rfl⟩
def offL (S l : List Nat) : Bool := S.all (fun k => !l.contains k)
theorem offL_not {S l : List Nat} (h : offL S l = true) {k : Nat} (hk : k ∈ S) : k ∉ l := fun q => by
  have := List.all_eq_true.mp h k hk
  simp [q] at this
section SMP
variable {l J : List Nat} {M N : zM} {n nd m : Nat}
theorem RS.sm (h : RS M n nd) (s : Sm l J M N) (a : offL [5, 6, 7, 8, 38, 39, 40] l = true) (b : offL [1, 2] J = true) : RS N n nd := by
  unfold RS
  rw [s.1 5 (by decide) (offL_not a (by decide)), s.1 6 (by decide) (offL_not a (by decide)), s.1 7 (by decide) (offL_not a (by decide)), s.1 8 (by decide) (offL_not a (by decide)), s.1 38 (by decide) (offL_not a (by decide)), s.1 39 (by decide) (offL_not a (by decide)), s.1 40 (by decide) (offL_not a (by decide)), s.2.1 1 (offL_not b (by decide)), s.2.1 2 (offL_not b (by decide))]
  exact h
theorem RX.sm (h : RX M) (s : Sm l J M N) (a : offL [1, 2, 41] l = true) (b : offL [9] J = true) : RX N := by
  unfold RX
  rw [s.1 1 (by decide) (offL_not a (by decide)), s.1 2 (by decide) (offL_not a (by decide)), s.1 41 (by decide) (offL_not a (by decide)), s.2.1 9 (offL_not b (by decide))]
  exact h
theorem RC.sm (h : RC M) (s : Sm l J M N) (h17 : N.1 0 17 = M.1 0 17) (h18 : N.1 0 18 = M.1 0 18) (b : offL [3, 4] J = true) : RC N := by
  unfold RC
  rw [h17, h18, s.2.1 3 (offL_not b (by decide)), s.2.1 4 (offL_not b (by decide)), s.2.2.1, s.2.2.2]
  exact h
theorem RH.sm (h : RH M) (s : Sm l J M N) (a : offL [34, 52] l = true) (b : offL [31, 32] J = true) : RH N := by
  unfold RH
  rw [s.1 34 (by decide) (offL_not a (by decide)), s.1 52 (by decide) (offL_not a (by decide)), s.2.1 31 (offL_not b (by decide)), s.2.1 32 (offL_not b (by decide))]
  exact h
theorem RU.sm (h : RU M) (s : Sm l J M N) (a : offL [13, 14, 44] l = true) (b : offL [21] J = true) : RU N := h.of (s.1 13 (by decide) (offL_not a (by decide))) (s.1 14 (by decide) (offL_not a (by decide))) (s.1 44 (by decide) (offL_not a (by decide))) (s.2.1 21 (offL_not b (by decide)))
theorem RW.sm {w a0 o : Nat} (h : RW M n w a0 o) (s : Sm l J M N) (a : offL [w, w + 1, w + 2, w + 3, w + 4, a0] l = true) (b : a0 ≠ 36 ∧ 36 < w) : RW N n w a0 o :=
  h.fr (s.1 w (by omega) (offL_not a (by simp))) (s.1 _ (by omega) (offL_not a (by simp))) (s.1 _ (by omega) (offL_not a (by simp))) (s.1 _ (by omega) (offL_not a (by simp))) (s.1 _ (by omega) (offL_not a (by simp))) (s.1 _ b.1 (offL_not a (by simp)))
def slotsL : List Nat := (List.range 65).map (fun i => 80 + i)
def keptL : List Nat := (List.range 10).map (fun i => 70 + i)
theorem mem_slots {k : Nat} (h : 80 ≤ k) (h2 : k ≤ 144) : k ∈ slotsL := List.mem_map.mpr ⟨k - 80, List.mem_range.mpr (by omega), by omega⟩
theorem mem_kept {k : Nat} (h : 70 ≤ k) (h2 : k ≤ 79) : k ∈ keptL := List.mem_map.mpr ⟨k - 70, List.mem_range.mpr (by omega), by omega⟩
theorem RP.sm (h : RP M n) (s : Sm l J M N) (a : offL (9 :: 47 :: slotsL) l = true) (b : offL [25] J = true) : RP N n := by
  obtain ⟨u, x, h1, h2, h3, h4, h5, h6⟩ := h
  have e9 := s.1 9 (by decide) (offL_not a (by simp))
  refine ⟨u, x, h1, h2, by rw [e9]; exact h3, by rw [e9]; exact h4, by rw [s.2.1 25 (offL_not b (by simp))]; exact h5, fun i hi => ?_⟩
  have hm : (x + 13 - u + i) % 13 < 13 := Nat.mod_lt _ (by omega)
  have q : ∀ k, 80 ≤ k → k ≤ 144 → N.1 k = M.1 k := fun k k1 k2 => s.1 k (by omega) (offL_not a (List.mem_cons_of_mem _ (List.mem_cons_of_mem _ (mem_slots k1 k2))))
  exact (h6 i hi).fr (q _ (by omega) (by omega)) (q _ (by omega) (by omega)) (q _ (by omega) (by omega)) (q _ (by omega) (by omega)) (q _ (by omega) (by omega)) (s.1 47 (by decide) (offL_not a (by simp)))
theorem RK.sm (h : RK M n m) (s : Sm l J M N) (a : offL (12 :: 56 :: 57 :: 58 :: keptL) l = true) (b : offL [37] J = true) : RK N n m := by
  obtain ⟨c, h1, h2, h3⟩ := h
  have q : ∀ k, 70 ≤ k → k ≤ 79 → N.1 k = M.1 k := fun k k1 k2 => s.1 k (by omega) (offL_not a (List.mem_cons_of_mem _ (List.mem_cons_of_mem _ (List.mem_cons_of_mem _ (List.mem_cons_of_mem _ (mem_kept k1 k2))))))
  refine ⟨c, h1, by rw [s.2.1 37 (offL_not b (by simp))]; exact h2, fun i hi => ?_⟩
  rw [s.1 12 (by decide) (offL_not a (by simp)), s.1 57 (by decide) (offL_not a (by simp)), s.1 58 (by decide) (offL_not a (by simp)), s.2.1 37 (offL_not b (by simp))]
  obtain ⟨a1, a2, a3, a4, a5⟩ := h3 i hi
  exact ⟨a1, a2, a3, a4, fun z => (a5 z).fr (q _ (by omega) (by omega)) (q _ (by omega) (by omega)) (q _ (by omega) (by omega)) (q _ (by omega) (by omega)) (q _ (by omega) (by omega)) (s.1 56 (by decide) (offL_not a (by simp)))⟩
theorem RO.of (h : RO M) (h3 : N.1 3 = M.1 3) (h11 : N.1 36 11 = M.1 36 11) (h2 : N.2.1 = M.2.1) : RO N := by
  obtain ⟨l, hl, c, m⟩ := h
  exact ⟨l, hl, c.fr h3 (by rw [h2]), m.fr h11 (by rw [h2])⟩
end SMP
/-- refused: nothing changes -/
theorem RAll.thrown {M : zM} {N : Nat} (h : RAll M N) : RAll (zSI M 36 12 0) (N + 1) := by
  obtain ⟨n, nd, h1, h2, h3, h4, h5, h6, h7, h8, h9⟩ := h
  have s : Sm [] [12] M (zSI M 36 12 0) := Sm.SI6 M 0 (by simp)
  exact ⟨n, nd, h1.sm s rfl rfl, h2.sm s rfl (by omega), h3.sm s rfl rfl, h4.of rfl rfl rfl, h5.sm s rfl rfl, (h6.sm s rfl rfl).up, h7.sm s rfl rfl rfl, h8.sm s rfl rfl, h9.sm s rfl rfl⟩
theorem opN {f g : zM → Option (Int32 × zM)} {M : zM} {N : Nat} {r : Int32} (h : RAll M N) (hf : f M = some (r, M)) (hg : g M = some (r, zSI M 36 12 0)) : OpS f g M N := ⟨r, M, _, hf, hg, h.thrown⟩
/-! set -/
theorem op_set {M : zM} {N : Nat} (h : RAll M N) (x y : Int32) : OpS (fun M => some (fX11_set x y M)) (fun M => some (fX12_set x y M)) M N := by
  have h0 := h
  obtain ⟨n, nd, h1, h2, h3, h4, h5, h6, h7, h8, h9⟩ := h
  by_cases c0 : x = 0
  · subst c0
    by_cases c1 : y < 1
    · refine opN (r := -1) h0 ?_ ?_
      · simp [fX11_set, zj, c1]
      · simp [fX12_set, zj, zlet, fX12_in, c1]
    · by_cases c2 : 99 < y
      · refine opN (r := -1) h0 ?_ ?_
        · simp [fX11_set, zj, c1, c2]
        · simp [fX12_set, zj, zlet, fX12_in, c1, c2]
      · refine ⟨100 + M.1 0 17, zSI M 0 17 y, zSI (zSI (zSI M 0 17 y) 36 12 0) 36 3 y, ?_, ?_, ?_⟩
        · simp [fX11_set, zj, zlet, c1, c2]
        · simp only [fX12_set, zj, zlet, fX12_in, c1, c2, if_true, if_false, show ¬ (1 : Int32) = 0 by decide]
          rw [h7.2.1]; rfl
        · have s : Sm [0] [12, 3] M (zSI (zSI (zSI M 0 17 y) 36 12 0) 36 3 y) := ((Sm.SI M 17 y (by decide) (by simp)).trans (Sm.SI6 _ 0 (by simp))).trans (Sm.SI6 _ y (by simp))
          refine ⟨n, nd, h1.sm s rfl rfl, h2.sm s rfl (by omega), h3.sm s rfl rfl, h4.of rfl rfl rfl, h5.sm s rfl rfl, (h6.sm s rfl rfl).up, ?_, h8.sm s rfl rfl, h9.sm s rfl rfl⟩
          obtain ⟨a1, a2, a3, a4, a5, a6⟩ := h7
          refine ⟨?_, rfl, a3, a4, a5, a6⟩
          rcases split_ix y (n := 100) (by omega) with q | ⟨t, ht, rfl⟩
          · exfalso
            rcases q with q | q
            · apply c1
              rw [Int32.lt_iff_toInt_lt] at q ⊢
              have : (1 : Int32).toInt = 1 := by decide
              have : (0 : Int32).toInt = 0 := by decide
              omega
            · apply c2
              rw [Int32.le_iff_toInt_le] at q
              rw [Int32.lt_iff_toInt_lt]
              have : (99 : Int32).toInt = 99 := by decide
              rw [nI_toInt (by omega)] at q
              omega
          · refine ⟨t, ?_, by omega, rfl⟩
            rcases Nat.eq_zero_or_pos t with z | z
            · subst z; exact absurd (by decide) c1
            · exact z
  · by_cases c1 : x = 1
    · subst c1
      by_cases c1 : y < -99
      · refine opN (r := -1) h0 ?_ ?_
        · simp [fX11_set, zj, c1]
        · simp [fX12_set, zj, zlet, fX12_in, c1]
      · by_cases c2 : 99 < y
        · refine opN (r := -1) h0 ?_ ?_
          · simp [fX11_set, zj, c1, c2]
          · simp [fX12_set, zj, zlet, fX12_in, c1, c2]
        · refine ⟨100 + M.1 0 18, zSI M 0 18 y, zSI (zSI (zSI M 0 18 y) 36 12 0) 36 4 y, ?_, ?_, ?_⟩
          · simp [fX11_set, zj, zlet, c1, c2]
          · simp only [fX12_set, zj, zlet, fX12_in, c1, c2, if_true, if_false, show ¬ (1 : Int32) = 0 by decide]
            rw [h7.2.2.1]; rfl
          · have s : Sm [0] [12, 4] M (zSI (zSI (zSI M 0 18 y) 36 12 0) 36 4 y) := ((Sm.SI M 18 y (by decide) (by simp)).trans (Sm.SI6 _ 0 (by simp))).trans (Sm.SI6 _ y (by simp))
            refine ⟨n, nd, h1.sm s rfl rfl, h2.sm s rfl (by omega), h3.sm s rfl rfl, h4.of rfl rfl rfl, h5.sm s rfl rfl, (h6.sm s rfl rfl).up, ?_, h8.sm s rfl rfl, h9.sm s rfl rfl⟩
            obtain ⟨a1, a2, a3, a4, a5, a6⟩ := h7
            refine ⟨a1, a2, rfl, ?_, a5, a6⟩
            show -99 ≤ y.toInt ∧ y.toInt ≤ 99
            rw [Int32.lt_iff_toInt_lt] at c1 c2
            have e1 : (-99 : Int32).toInt = -99 := by decide
            have e2 : (99 : Int32).toInt = 99 := by decide
            rw [e1] at c1
            rw [e2] at c2
            omega
    · refine opN (r := -1) h0 ?_ ?_
      · simp [fX11_set, zj, c0, c1]
      · simp [fX12_set, zj, zlet, c0, c1]
/-! forget, said -/
theorem op_forget {M : zM} {N : Nat} (h : RAll M N) : OpS (fun M => some (fX11_forget M)) (fun M => some (fX12_forget M)) M N := by
  obtain ⟨n, nd, h1, h2, h3, h4, h5, h6, h7, h8, h9⟩ := h
  obtain ⟨s, b1, b2, b3, b4, b5⟩ := h8
  refine ⟨M.1 34 2, zSI (zSI (zSI M 34 0 0) 34 1 0) 34 2 0, zSI (zSI (zSI (zSI (zSI M 34 0 0) 34 1 0) 34 2 0) 36 12 0) 36 32 0, rfl, ?_, ?_⟩
  · simp only [fX12_forget, zlet]
    rw [b2, ← b3]; rfl
  · have sm : Sm [34] [12, 32] M (zSI (zSI (zSI (zSI (zSI M 34 0 0) 34 1 0) 34 2 0) 36 12 0) 36 32 0) := ((((Sm.SI M 0 0 (by decide) (by simp)).trans (Sm.SI _ 1 0 (by decide) (by simp))).trans (Sm.SI _ 2 0 (by decide) (by simp))).trans (Sm.SI6 _ 0 (by simp))).trans (Sm.SI6 _ 0 (by simp))
    refine ⟨n, nd, h1.sm sm rfl rfl, h2.sm sm rfl (by omega), h3.sm sm rfl rfl, h4.of rfl rfl rfl, h5.sm sm rfl rfl, (h6.sm sm rfl rfl).up, h7.sm sm rfl rfl rfl, ?_, h9.sm sm rfl rfl⟩
    refine ⟨0, by omega, rfl, rfl, fun k hk => absurd hk (by omega), fun m hm => ⟨fun _ k hk => absurd hk (by omega), fun _ => ⟨?_, ?_⟩⟩⟩
    · show (0 : Int32) &&& _ = 0
      apply b_ext
      intro i hi
      rw [b_and, b_0]; rfl
    · show (0 : Int32) &&& _ = 0
      apply b_ext
      intro i hi
      rw [b_and, b_0]; rfl
theorem and0_iff (x y : Int32) : x &&& y = 0 ↔ ∀ i, i < 32 → (bt x i && bt y i) = false := by
  constructor
  · intro h i hi
    rw [← b_and, h, b_0]
  · intro h
    apply b_ext
    intro i hi
    rw [b_and, h i hi, b_0]
theorem or_and0 (a b c : Int32) : (a ||| b) &&& c = 0 ↔ a &&& c = 0 ∧ b &&& c = 0 := by
  rw [and0_iff, and0_iff, and0_iff]
  constructor
  · intro h
    refine ⟨fun i hi => ?_, fun i hi => ?_⟩
    · have := h i hi
      rw [b_or] at this
      cases h1 : bt a i <;> cases h2 : bt c i <;> simp_all
    · have := h i hi
      rw [b_or] at this
      cases h1 : bt b i <;> cases h2 : bt c i <;> simp_all
  · rintro ⟨h1, h2⟩ i hi
    have q1 := h1 i hi
    have q2 := h2 i hi
    rw [b_or]
    cases h1 : bt a i <;> cases h2 : bt c i <;> cases h3 : bt b i <;> simp_all
theorem shl_and0 {m : Nat} (hm : m < 32) (c : Int32) : zshl 1 (nI m) &&& c = 0 ↔ bt c m = false := by
  rw [and0_iff]
  constructor
  · intro h
    have := h m hm
    rw [bt_shl1 hm hm] at this
    simpa using this
  · intro h i hi
    rw [bt_shl1 hm hi]
    by_cases e : i = m
    · subst e; simp [h]
    · simp [e]
theorem hasB_put (b : Int32) {s k : Nat} (y : Nat) (hy : y < 2) (hs : s < 32) (hk : k < 32) : hasB ((b &&& (zshl 1 (nI s) ^^^ (-1))) ||| zshl (nI y) (nI s)) (nI k) = if k = s then decide (y = 1) else hasB b (nI k) := by
  rw [hasB_bt _ hk, hasB_bt _ hk, b_or, b_and, b_not _ hk, bt_shl1 hs hk]
  have e : bt (zshl (nI y) (nI s)) k = (decide (k = s) && decide (y = 1)) := by
    have : y = 0 ∨ y = 1 := by omega
    rcases this with rfl | rfl
    · unfold zshl
      rw [b_shl s hs _ hk, bt_nI 0 (show k - s < 32 by omega)]
      simp
    · have := bt_shl1 hs hk
      rw [show nI 1 = 1 from rfl, this]
      simp
  rw [e]
  by_cases c : k = s
  · simp [c]
  · simp [c]
theorem op_said {M : zM} {N : Nat} (h : RAll M N) (x y : Int32) : OpS (fun M => some (fX11_said x y M)) (fX12_said x y) M N := by
  have h0 := h
  obtain ⟨n, nd, h1, h2, h3, h4, h5, h6, h7, h8, h9⟩ := h
  obtain ⟨s, b1, b2, b3, b4, b5⟩ := h8
  have in8 : ∀ x, fX12_in x 0 7 = 0 ↔ (x < 0 ∨ nI 8 ≤ x) := fun x => by
    rcases split_ix x (n := 8) (by omega) with q | ⟨t, ht, rfl⟩
    · exact ⟨fun _ => q, fun _ => in0 (n := 8) (by omega) q⟩
    · rw [show fX12_in (nI t) 0 7 = 1 from in1 (n := 8) (by omega) ht]
      exact ⟨fun z => absurd z (by decide), fun z => by
        rcases z with z | z
        · exact absurd z (nI_nneg (by omega))
        · exact absurd z (leF ht (by omega))⟩
  have in2 : ∀ x, fX12_in x 0 1 = 0 ↔ (x < 0 ∨ nI 2 ≤ x) := fun x => by
    rcases split_ix x (n := 2) (by omega) with q | ⟨t, ht, rfl⟩
    · exact ⟨fun _ => q, fun _ => in0 (n := 2) (by omega) q⟩
    · rw [show fX12_in (nI t) 0 1 = 1 from in1 (n := 2) (by omega) ht]
      exact ⟨fun z => absurd z (by decide), fun z => by
        rcases z with z | z
        · exact absurd z (nI_nneg (by omega))
        · exact absurd z (leF ht (by omega))⟩
  rcases split_ix x (n := 8) (by omega) with q | ⟨m, hm, rfl⟩
  · refine opN (r := -1) h0 ?_ ?_
    · rcases q with q | q
      · simp only [fX11_said, if_pos q]
      · simp only [fX11_said]
        by_cases c : x < 0
        · rw [if_pos c]
        · rw [if_neg c, if_pos (show 8 ≤ x from q)]
    · simp only [fX12_said, zlet, if_pos ((in8 x).mpr q)]
  · have ex8 : ¬ (8 : Int32) ≤ nI m := leF (a := 8) hm (by omega)
    have em : ¬ fX12_in (nI m) 0 7 = 0 := by rw [show fX12_in (nI m) 0 7 = 1 from in1 (n := 8) (by omega) hm]; decide
    rcases split_ix y (n := 2) (by omega) with q | ⟨v, hv, rfl⟩
    · refine opN (r := -1) h0 ?_ ?_
      · simp only [fX11_said, if_neg (nI_nneg (show m < 2 ^ 31 by omega)), if_neg ex8]
        by_cases c : y < 0
        · rw [if_pos c]
        · rcases q with q | q
          · exact absurd q c
          · rw [if_neg c, if_pos (show (1 : Int32) < y from (out_lt (n := 2) (by omega) (Or.inr q) c).2)]
      · simp only [fX12_said, zlet, if_neg em, if_pos ((in2 y).mpr q)]
    · have ey1 : ¬ (1 : Int32) < nI v := ltF (b := v) (a := 1) (by omega) (by omega)
      have ey : ¬ fX12_in (nI v) 0 1 = 0 := by rw [show fX12_in (nI v) 0 1 = 1 from in1 (n := 2) (by omega) hv]; decide
      rcases Nat.lt_or_ge s 12 with hs | hs
      · have e1 : (nI v = 1) ↔ v = 1 := by
          rw [show (1 : Int32) = nI 1 from rfl, nI_eq (by omega) (by omega)]
        let Mh : zM := if v = 1 then zSI M 34 0 (M.1 34 0 ||| zshl 1 (nI m)) else zSI M 34 1 (M.1 34 1 ||| zshl 1 (nI m))
        have eh : fX1_hear (nI m) (if nI v = 1 then 1 else 0) M = zSI Mh 34 2 (nI (s + 1)) := by
          simp only [fX1_hear, zlet, e1]
          by_cases c : v = 1
          · simp only [c, if_true, show ¬ (1 : Int32) = 0 by decide, if_false, Mh, gSI, show ¬ (2 = 0) by decide, and_false, b2, nI_1]
          · simp only [c, if_true, if_false, Mh, gSI, show ¬ (2 = 1) by decide, and_false, b2, nI_1]
        let M1 : zM := zSI Mh 34 2 (nI (s + 1))
        have hMh : Sm [34] [12, 32, 31] M Mh := by
          by_cases c : v = 1
          · simp only [Mh, c, if_true]; exact Sm.SI M _ _ (by decide) (by simp)
          · simp only [Mh, c, if_false]; exact Sm.SI M _ _ (by decide) (by simp)
        have hMh2 : Mh.2 = M.2 ∧ (∀ k, k ≠ 34 → Mh.1 k = M.1 k) := by
          by_cases c : v = 1
          · simp only [Mh, c, if_true]; exact ⟨rfl, fun k hk => zSI_other M _ _ hk⟩
          · simp only [Mh, c, if_false]; exact ⟨rfl, fun k hk => zSI_other M _ _ hk⟩
        have e32 : M1.1 36 32 = nI s := by
          show (zSI Mh 34 2 (nI (s + 1))).1 36 32 = nI s
          rw [zSI_other _ _ _ (by decide), hMh2.2 36 (by decide)]; exact b3
        have e31 : M1.1 36 31 = M.1 36 31 := by
          show (zSI Mh 34 2 (nI (s + 1))).1 36 31 = _
          rw [zSI_other _ _ _ (by decide), hMh2.2 36 (by decide)]
        let B : Int32 := (M.1 36 31 &&& (zshl 1 (nI s) ^^^ (-1))) ||| zshl (nI v) (nI s)
        let M2 : zM := zSI (zSI (zSI (zSI M1 36 12 0) 52 s (nI m)) 36 31 B) 36 32 (nI (s + 1))
        refine ⟨nI (s + 1), M1, M2, ?_, ?_, ?_⟩
        · simp only [fX11_said, if_neg (nI_nneg (show m < 2 ^ 31 by omega)), if_neg ex8, if_neg (nI_nneg (show v < 2 ^ 31 by omega)), if_neg ey1, b2, if_pos (show nI s < 12 from ltT (b := 12) hs (by omega)), zlet, eh]
          rfl
        · have q12 : (zSI M1 36 12 0).1 36 32 = nI s := by rw [gSI, if_neg (by omega)]; exact e32
          have q31 : (zSI M1 36 12 0).1 36 31 = M.1 36 31 := by rw [gSI, if_neg (by omega)]; exact e31
          have ns : ¬ nI s = 12 := fun z => by
            rw [show (12 : Int32) = nI 12 from rfl, nI_eq (by omega) (by omega)] at z; omega
          have a1 : (zSI (zSI M1 36 12 0) 52 s (nI m)).1 36 32 = nI s := by rw [zSI_other _ _ _ (by decide)]; exact q12
          have a2 : (zSI (zSI M1 36 12 0) 52 s (nI m)).1 36 31 = M.1 36 31 := by rw [zSI_other _ _ _ (by decide)]; exact q31
          have a3 : (zSI (zSI (zSI M1 36 12 0) 52 s (nI m)) 36 31 B).1 36 32 = nI s := by rw [gSI, if_neg (by omega)]; exact a1
          simp only [fX12_said, zlet, if_neg em, if_neg ey, q12, if_neg ns, if_pos (zinT hs (show s < 2 ^ 31 by omega)), nI_clamp (show s < 2 ^ 31 by omega), a1, a2]
          rw [show (M.1 36 31 &&& (zshl 1 (nI s) ^^^ (-1))) ||| zshl (nI v) (nI s) = B from rfl, a3, nI_1]
          show some ((zSI _ 36 32 (nI (s + 1))).1 36 32, _) = _
          rw [gSI, if_pos ⟨rfl, rfl⟩]
        · have sm : Sm [34, 52] [12, 32, 31] M M2 := by
            have hM1 : Sm [34, 52] [12, 32, 31] M Mh := ⟨fun k h1 h2 => hMh.1 k h1 (fun z => h2 (by simp at z; simp [z])), hMh.2⟩
            exact ((((hM1.trans (Sm.SI _ _ _ (by decide) (by simp))).trans (Sm.SI6 _ _ (by simp))).trans (Sm.SI _ _ _ (by decide) (by simp))).trans (Sm.SI6 _ _ (by simp))).trans (Sm.SI6 _ _ (by simp))
          have r2 : M2.2 = M.2 := hMh2.1
          have r3 : M2.1 3 = M.1 3 := sm.1 3 (by decide) (by decide)
          refine ⟨n, nd, h1.sm sm rfl rfl, h2.sm sm rfl (by omega), h3.sm sm rfl rfl, h4.of r3 (sm.2.1 11 (by decide)) (by rw [r2]), h5.sm sm rfl rfl, (h6.sm sm rfl rfl).up, h7.sm sm (by rw [sm.1 0 (by decide) (by decide)]) (by rw [sm.1 0 (by decide) (by decide)]) rfl, ?_, h9.sm sm rfl rfl⟩
          have e34 : ∀ j, j ≠ 2 → M2.1 34 j = Mh.1 34 j := fun j hj => by
            show (zSI Mh 34 2 _).1 34 j = _
            rw [gSI, if_neg (by omega)]
          have e34b : M2.1 34 2 = nI (s + 1) := rfl
          have e52 : ∀ k, M2.1 52 k = if k = s then nI m else M.1 52 k := fun k => by
            show (zSI (zSI M1 36 12 0) 52 s (nI m)).1 52 k = _
            rw [gSI]
            by_cases c : k = s
            · rw [if_pos ⟨rfl, c⟩, if_pos c]
            · rw [if_neg (fun z => c z.2), if_neg c]
              show Mh.1 52 k = _
              rw [hMh2.2 52 (by decide)]
          have eB : M2.1 36 31 = B := rfl
          refine ⟨s + 1, by omega, e34b, rfl, fun k hk => ?_, fun m' hm' => ?_⟩
          · rw [e52]
            by_cases c : k = s
            · rw [if_pos c]; exact ⟨m, hm, rfl⟩
            · rw [if_neg c]; exact b4 k (by omega)
          · rw [e34 0 (by decide), e34 1 (by decide), eB]
            have old := b5 m' hm'
            have key : (Mh.1 34 0 &&& (nI m' ^^^ (-1)) = 0 ∧ Mh.1 34 1 &&& nI m' = 0) ↔ ((M.1 34 0 &&& (nI m' ^^^ (-1)) = 0 ∧ M.1 34 1 &&& nI m' = 0) ∧ bt (nI m') m = decide (v = 1)) := by
              by_cases c : v = 1
              · have e0 : Mh.1 34 0 = M.1 34 0 ||| zshl 1 (nI m) := by simp only [Mh, c, if_true, gSI, and_self]
                have e1 : Mh.1 34 1 = M.1 34 1 := by simp only [Mh, c, if_true, gSI, show ¬ (1 = 0) by decide, and_false, if_false]
                rw [e0, e1, or_and0, shl_and0 (show m < 32 by omega), b_not _ (show m < 32 by omega)]
                simp only [c, decide_true]
                cases bt (nI m') m <;> simp
              · have e0 : Mh.1 34 0 = M.1 34 0 := by simp only [Mh, c, if_false, gSI, show ¬ (0 = 1) by decide, and_false]
                have e1 : Mh.1 34 1 = M.1 34 1 ||| zshl 1 (nI m) := by simp only [Mh, c, if_false, gSI, and_self, if_true]
                rw [e0, e1, or_and0, shl_and0 (show m < 32 by omega)]
                simp only [c, decide_false]
                cases bt (nI m') m <;> simp
            rw [key, old]
            constructor
            · rintro ⟨g1, g2⟩ k hk
              rw [e52, hasB_put _ v hv (by omega) (by omega)]
              by_cases c : k = s
              · rw [if_pos c, if_pos c, hasB_bt _ (by omega)]; exact g2
              · rw [if_neg c, if_neg c]; exact g1 k (by omega)
            · intro g
              refine ⟨fun k hk => ?_, ?_⟩
              · have := g k (by omega)
                rw [e52, hasB_put _ v hv (by omega) (by omega), if_neg (by omega), if_neg (by omega)] at this
                exact this
              · have := g s (by omega)
                rw [e52, hasB_put _ v hv (by omega) (by omega), if_pos rfl, if_pos rfl, hasB_bt _ (by omega)] at this
                exact this
      · have hs12 : s = 12 := by omega
        subst hs12
        refine opN (r := -1) h0 ?_ ?_
        · simp only [fX11_said, if_neg (nI_nneg (show m < 2 ^ 31 by omega)), if_neg ex8, if_neg (nI_nneg (show v < 2 ^ 31 by omega)), if_neg ey1, b2]
          rw [if_neg (show ¬ nI 12 < 12 by decide)]
        · have q12 : (zSI M 36 12 0).1 36 32 = nI 12 := by rw [gSI, if_neg (by omega)]; exact b3
          simp only [fX12_said, zlet, if_neg em, if_neg ey, q12]
          rw [if_pos (show nI 12 = 12 from rfl)]
