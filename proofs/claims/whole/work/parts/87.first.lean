/-! a new object of each: the first memory -/
def First (M : zM) : Prop :=
  (M.1 5 3 = 0 ∧ M.1 36 1 = 0 ∧ M.1 5 4 = 0 ∧ M.1 36 2 = 0) ∧ ((∀ c, 1 ≤ c → c ≤ 4 → ∀ t, t < 8 → M.1 (60 + c) t = -1) ∧ M.1 60 4 = 0 ∧ M.1 60 5 = 0 ∧ ∀ j, j < 26 → M.1 37 j = 0) ∧ (M.1 1 1 = 0 ∧ M.1 36 9 = 0) ∧ (M.1 3 1 = 0 ∧ M.1 36 11 = 0) ∧ (M.1 9 1 = 0 ∧ M.1 9 2 = 0 ∧ M.1 36 25 = 0)
  ∧ (M.1 36 37 = 0 ∧ ∀ i, i < 2 → M.1 12 i = 0 ∧ M.1 57 i = 0 ∧ M.1 58 i = 0) ∧ (M.1 0 17 = 30 ∧ M.1 36 3 = 30 ∧ M.1 0 18 = 3 ∧ M.1 36 4 = 3 ∧ M.2.2 19 = some 44 ∧ M.2.2 20 = some 45) ∧ (M.1 34 0 = 0 ∧ M.1 34 1 = 0 ∧ M.1 34 2 = 0 ∧ M.1 36 32 = 0) ∧ PartsAre M 13 plainL ∧ M.1 36 21 = 0
theorem zero_and (x : Int32) : (0 : Int32) &&& x = 0 := by
  apply b_ext
  intro i hi
  rw [b_and, b_0]; rfl
theorem First.all {M : zM} (h : First M) : RAll M 0 := by
  obtain ⟨⟨a1, a2, a3, a4⟩, ⟨b1, b2, b3, b4⟩, ⟨c1, c2⟩, ⟨d1, d2⟩, ⟨e1, e2, e3⟩, ⟨f1, f2⟩, ⟨g1, g2, g3, g4, g5, g6⟩, ⟨i1, i2, i3, i4⟩, j1, j2⟩ := h
  refine ⟨0, 0, ⟨⟨by omega, by omega⟩, ⟨a1, a2, a3, a4⟩, fun t ht => absurd ht (by omega), fun t ht => absurd ht (by omega), fun t ht => absurd ht (by omega)⟩, ⟨fun t ht => absurd ht (by omega), fun t _ t2 => ⟨b1 1 (by omega) (by omega) t t2, b1 2 (by omega) (by omega) t t2, b1 3 (by omega) (by omega) t t2, b1 4 (by omega) (by omega) t t2⟩, ?_, ?_⟩, RX.empty c1 c2, ⟨[], by decide, ⟨d1, fun j v hj => by simp at hj⟩, ⟨d2, fun j v hj => by simp at hj⟩⟩, RP.zero (x := 0) (by omega) e1 e2 e3, ⟨0, Nat.le_refl 0, f1, fun i hi => ?_⟩, ⟨⟨30, by omega, by omega, g1⟩, by rw [g1, g2], by rw [g3, g4], ?_, g5, g6⟩, ⟨0, by omega, i3, i4, fun k hk => absurd hk (by omega), fun m hm => ⟨fun _ k hk => absurd hk (by omega), fun _ => ⟨by rw [i1]; exact zero_and _, by rw [i2]; exact zero_and _⟩⟩⟩, ⟨plainL, pv, 0, j1, plain_rn, j2, Or.inl ⟨rfl, rfl⟩⟩⟩
  · rw [b2, b4 (0 + 24) (by omega)]
  · rw [b3, b4 (0 + 25) (by omega)]
  · obtain ⟨x1, x2, x3⟩ := f2 i hi
    rw [x1, x2, x3, f1]
    exact ⟨Or.inl rfl, Or.inl rfl, ⟨0, Nat.le_refl 0, rfl⟩, ⟨fun z => absurd z (by decide), fun z => absurd z.1 (by decide)⟩, fun z => absurd z (by decide)⟩
  · rw [g4]; decide
