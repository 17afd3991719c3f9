/-! whereabouts: copies, what can be undone, what is kept -/
theorem RW.copy {M N : zM} {n w a o w2 a2 o2 : Nat} (h8 : n ≤ 8) (h : RW M n w a o) (hc : ∀ c, 1 ≤ c → c ≤ 4 → ∀ t, t < 8 → N.1 (w2 + c) t = M.1 (w + c) t) (h4 : N.1 w2 4 = M.1 w 4) (h5 : N.1 w2 5 = M.1 w 5) (ha : ∀ j, j < 26 → N.1 a2 (o2 + j) = M.1 a (o + j)) : RW N n w2 a2 o2 := by
  obtain ⟨g1, g2, g3, g4⟩ := h
  refine ⟨fun t ht => ?_, fun t t1 t2 => ?_, ?_, ?_⟩
  · rw [hc 1 (by omega) (by omega) t (by omega), hc 2 (by omega) (by omega) t (by omega), hc 3 (by omega) (by omega) t (by omega), hc 4 (by omega) (by omega) t (by omega), ha t (by omega), ha (8 + t) (by omega), ha (16 + t) (by omega)]
    exact g1 t ht
  · rw [hc 1 (by omega) (by omega) t (by omega), hc 2 (by omega) (by omega) t (by omega), hc 3 (by omega) (by omega) t (by omega), hc 4 (by omega) (by omega) t (by omega)]
    exact g2 t t1 t2
  · rw [h4, ha 24 (by omega)]; exact g3
  · rw [h5, ha 25 (by omega)]; exact g4
/-- what a copy of whereabouts leaves and gives -/
def Bec (x0 x1 : Nat) (M N : zM) : Prop := N.2 = M.2 ∧ (∀ k, k < x0 ∨ x0 + 4 < k → N.1 k = M.1 k) ∧ (∀ c, 1 ≤ c → c ≤ 4 → ∀ t, t < 8 → N.1 (x0 + c) t = M.1 (x1 + c) t) ∧ N.1 x0 4 = M.1 x1 4 ∧ N.1 x0 5 = M.1 x1 5
theorem p_become {x0 x1 : Nat} {M : zM} (h0 : zSH x0 = .inl 10) (h1 : zSH x1 = .inl 10) (hne : x0 + 4 < x1 ∨ x1 + 4 < x0) : ∃ N, fX10_become x0 x1 M = some N ∧ Bec x0 x1 M N := by
  show wpO (fX10_become x0 x1 M) (Bec x0 x1 M)
  unfold fX10_become
  refine wpO_tk h1 (wpO_tk h0 (wpO_lk (wpO_lk (wpO_lk (wpO_lk (wpO_lk (wpO_lk (wpO_ret ⟨rfl, fun k hk => ?_, fun c c1 c4 t ht => ?_, ?_, ?_⟩))))))))
  · rw [zSI_other _ _ _ (by omega), zSI_other _ _ _ (by omega), gSA, if_neg (by omega), gSA, if_neg (by omega), gSA, if_neg (by omega), gSA, if_neg (by omega)]
  · have : c = 1 ∨ c = 2 ∨ c = 3 ∨ c = 4 := by omega
    rw [zSI_other _ _ _ (by omega), zSI_other _ _ _ (by omega)]
    rcases this with rfl | rfl | rfl | rfl
    · rw [gSA, if_neg (by omega), gSA, if_neg (by omega), gSA, if_neg (by omega), gSA, if_pos rfl, pk_cpy_in (by omega) (by omega)]
      simp
    · rw [gSA, if_neg (by omega), gSA, if_neg (by omega), gSA, if_pos rfl, pk_cpy_in (by omega) (by omega), gSA, if_neg (by omega)]
      simp
    · rw [gSA, if_neg (by omega), gSA, if_pos rfl, pk_cpy_in (by omega) (by omega), gSA, if_neg (by omega), gSA, if_neg (by omega)]
      simp
    · rw [gSA, if_pos rfl, pk_cpy_in (by omega) (by omega), gSA, if_neg (by omega), gSA, if_neg (by omega), gSA, if_neg (by omega)]
      simp
  · rw [gSI, if_neg (by omega), gSI, if_pos ⟨rfl, rfl⟩, gSA, if_neg (by omega), gSA, if_neg (by omega), gSA, if_neg (by omega), gSA, if_neg (by omega)]
  · rw [gSI, if_pos ⟨rfl, rfl⟩, zSI_other _ _ _ (by omega), gSA, if_neg (by omega), gSA, if_neg (by omega), gSA, if_neg (by omega), gSA, if_neg (by omega)]
/-- 26 places of row x0 into row x1 from o on -/
def Lay (x0 x1 o : Nat) (M N : zM) : Prop := N.2 = M.2 ∧ (∀ k, k ≠ x1 → N.1 k = M.1 k) ∧ ∀ j, N.1 x1 j = if o ≤ j ∧ j < o + 26 then M.1 x0 (j - o) else M.1 x1 j
theorem p_lay {x0 x1 o l0 l1 : Nat} {M : zM} (h0 : zSH x0 = .inr (0, l0)) (h1 : zSH x1 = .inr (0, l1)) (hl0 : 26 ≤ l0) (hl1 : o + 26 ≤ l1) (hne : x0 ≠ x1) (hb : o < 1000) : ∃ N, fX12_lay x0 x1 (nI o) M = some N ∧ Lay x0 x1 o M N := by
  have e0 : zLen x0 = l0 := zLen_of h0
  have e1 : zLen x1 = l1 := zLen_of h1
  have key : ∃ N, fX12_lay_L2 x0 x1 (nI o) 4000 0 M = some N ∧ Lay x0 x1 o M N := by
    refine zforI (fun n (s : Int32 × zM) => fX12_lay_L2 x0 x1 (nI o) n s.1 s.2) (fun i s => s.1 = nI i ∧ s.2.2 = M.2 ∧ (∀ k, k ≠ x1 → s.2.1 k = M.1 k) ∧ ∀ j, s.2.1 x1 j = if o ≤ j ∧ j < o + i then M.1 x0 (j - o) else M.1 x1 j) 26 (fun r => ∃ N, r = some N ∧ Lay x0 x1 o M N) ?_ ?_ 26 0 4000 (0, M) rfl (by omega) ⟨rfl, rfl, fun _ _ => rfl, fun j => by rw [if_neg (by omega)]⟩
    · rintro n i ⟨b, N⟩ hi ⟨q1, q2, q3, q4⟩
      dsimp only at q1 q2 q3 q4 ⊢
      subst q1
      refine ⟨(nI (i + 1), zSI N x1 (o + i) (M.1 x0 i)), ⟨rfl, q2, fun k hk => by rw [zSI_other _ _ _ hk]; exact q3 k hk, fun j => ?_⟩, ?_⟩
      · show (zSI N x1 (o + i) (M.1 x0 i)).1 x1 j = _
        rw [gSI]
        by_cases c : j = o + i
        · subst c
          rw [if_pos ⟨rfl, rfl⟩, if_pos ⟨by omega, by omega⟩, show o + i - o = i by omega]
        · rw [if_neg (fun z => c z.2), q4]
          by_cases c2 : o ≤ j ∧ j < o + i
          · rw [if_pos c2, if_pos ⟨c2.1, by omega⟩]
          · rw [if_neg c2, if_neg (by omega)]
      · simp only [fX12_lay_L2, if_neg (show ¬ 26 ≤ nI i from leF (a := 26) hi (by omega)), e0, e1, h0, h1, if_true, if_pos (zinT (show i < l0 by omega) (by omega)), nI_add, if_pos (zinT (show o + i < l1 by omega) (by omega)), nI_clamp (show i < 2 ^ 31 by omega), nI_clamp (show o + i < 2 ^ 31 by omega), zlet, nI_1, q3 x0 hne]
    · rintro n ⟨b, N⟩ ⟨q1, q2, q3, q4⟩
      dsimp only at q1 q2 q3 q4 ⊢
      subst q1
      exact ⟨N, by simp only [fX12_lay_L2, if_pos (show 26 ≤ nI 26 from leT (a := 26) (Nat.le_refl 26) (by omega))], q2, q3, q4⟩
  obtain ⟨N, e, h⟩ := key
  exact ⟨N, by unfold fX12_lay; rw [e]; rfl, h⟩
/-- place j of the undos once more is remembered -/
def rmJ (M : zM) (u x1 j : Nat) : Int32 := if j < 26 * min 11 u then M.1 47 (if u = 12 then j + 26 else j) else M.1 x1 (j - 26 * min 11 u)
def Rem (x1 u : Nat) (M N : zM) : Prop := N.2 = M.2 ∧ (∀ k, k ≠ 36 → k ≠ 47 → N.1 k = M.1 k) ∧ (∀ j, j ≠ 25 → N.1 36 j = M.1 36 j) ∧ N.1 36 25 = nI (min 12 (u + 1)) ∧ ∀ j, j < 26 * min 12 (u + 1) → N.1 47 j = rmJ M u x1 j
theorem p_remL {x1 : Nat} {M : zM} : ∃ N, fX12_remember_L11 x1 4000 0 M = some N ∧ N.2 = M.2 ∧ (∀ k, k ≠ 47 → N.1 k = M.1 k) ∧ ∀ j, N.1 47 j = if j < 286 then M.1 47 (j + 26) else M.1 47 j := by
  refine zforI (fun n (s : Int32 × zM) => fX12_remember_L11 x1 n s.1 s.2) (fun i s => s.1 = nI i ∧ s.2.2 = M.2 ∧ (∀ k, k ≠ 47 → s.2.1 k = M.1 k) ∧ ∀ j, s.2.1 47 j = if j < i then M.1 47 (j + 26) else M.1 47 j) 286 (fun r => ∃ N, r = some N ∧ N.2 = M.2 ∧ (∀ k, k ≠ 47 → N.1 k = M.1 k) ∧ ∀ j, N.1 47 j = if j < 286 then M.1 47 (j + 26) else M.1 47 j) ?_ ?_ 286 0 4000 (0, M) rfl (by omega) ⟨rfl, rfl, fun _ _ => rfl, fun j => by rw [if_neg (by omega)]⟩
  · rintro n i ⟨b, N⟩ hi ⟨q1, q2, q3, q4⟩
    dsimp only at q1 q2 q3 q4 ⊢
    subst q1
    have e : N.1 47 (i + 26) = M.1 47 (i + 26) := by rw [q4, if_neg (by omega)]
    refine ⟨(nI (i + 1), zSI N 47 i (M.1 47 (i + 26))), ⟨rfl, q2, fun k hk => by rw [zSI_other _ _ _ hk]; exact q3 k hk, fun j => ?_⟩, ?_⟩
    · show (zSI N 47 i (M.1 47 (i + 26))).1 47 j = _
      rw [gSI]
      by_cases c : j = i
      · subst c
        rw [if_pos ⟨rfl, rfl⟩, if_pos (by omega)]
      · rw [if_neg (fun z => c z.2), q4]
        by_cases c2 : j < i
        · rw [if_pos c2, if_pos (by omega)]
        · rw [if_neg c2, if_neg (by omega)]
    · simp only [fX12_remember_L11, if_neg (show ¬ 286 ≤ nI i from leF (a := 286) hi (by omega)), show nI i + 26 = nI (i + 26) from nI_add i 26, if_pos (zinT (show i + 26 < 312 by omega) (by omega)), if_pos (zinT (show i < 312 by omega) (by omega)), nI_clamp (show i < 2 ^ 31 by omega), nI_clamp (show i + 26 < 2 ^ 31 by omega), zlet, nI_1, e]
  · rintro n ⟨b, N⟩ ⟨q1, q2, q3, q4⟩
    dsimp only at q1 q2 q3 q4 ⊢
    subst q1
    exact ⟨N, by simp only [fX12_remember_L11, if_pos (show 286 ≤ nI 286 from leT (a := 286) (Nat.le_refl 286) (by omega))], q2, q3, q4⟩
theorem p_rem {x1 u : Nat} {M : zM} (hx : zSH x1 = .inr (0, 26)) (hne : x1 ≠ 36 ∧ x1 ≠ 47) (h : M.1 36 25 = nI u) (hu : u ≤ 12) : ∃ N, fX12_remember x1 M = some N ∧ Rem x1 u M N := by
  have step : ∀ M0 : zM, ∀ v, v ≤ 11 → M0.1 36 25 = nI v → ∃ N, ((fX12_lay x1 47 (26 * (M0.1 36 25)) M0).bind fun (M61 : zM) => zlet (zSI M61 36 25 ((M61.1 36 25) + 1)) fun (M71 : zM) => some M71) = some N ∧ N.2 = M0.2 ∧ (∀ k, k ≠ 36 → k ≠ 47 → N.1 k = M0.1 k) ∧ (∀ j, j ≠ 25 → N.1 36 j = M0.1 36 j) ∧ N.1 36 25 = nI (v + 1) ∧ ∀ j, N.1 47 j = if 26 * v ≤ j ∧ j < 26 * v + 26 then M0.1 x1 (j - 26 * v) else M0.1 47 j := by
    intro M0 v hv e
    obtain ⟨N, e1, l1, l2, l3⟩ := p_lay (M := M0) (x0 := x1) (x1 := 47) (o := 26 * v) (l1 := 312) hx rfl (Nat.le_refl 26) (by omega) hne.2 (by omega)
    have e25 : N.1 36 25 = nI v := by rw [l2 36 (by omega)]; exact e
    refine ⟨zSI N 36 25 (nI (v + 1)), ?_, l1, fun k k1 k2 => by rw [zSI_other _ _ _ k1]; exact l2 k k2, fun j hj => by rw [gSI, if_neg (by omega), l2 36 (by omega)], by rw [gSI, if_pos ⟨rfl, rfl⟩], fun j => by rw [gSI, if_neg (by omega)]; exact l3 j⟩
    rw [e, show (26 : Int32) * nI v = nI (26 * v) from pk_mul 26 v, e1]
    simp only [Option.bind_some, zlet, e25, nI_1]
  unfold fX12_remember
  rcases Nat.lt_or_ge u 12 with hu2 | hu2
  · obtain ⟨N, e1, l1, l2, l3, l4, l5⟩ := step M u (by omega) h
    refine ⟨N, ?_, l1, l2, l3, by rw [l4]; congr 1; omega, fun j hj => ?_⟩
    · rw [h, if_neg (fun z => by
        rw [show (12 : Int32) = nI 12 from rfl, nI_eq (by omega) (by omega)] at z; omega)]
      exact e1
    · have m1 : min 11 u = u := by omega
      unfold rmJ
      rw [l5, m1]
      by_cases c : j < 26 * u
      · rw [if_neg (by omega), if_pos c, if_neg (by omega)]
      · rw [if_pos (by omega), if_neg c]
  · have : u = 12 := by omega
    subst this
    obtain ⟨N0, e0, r1, r2, r3⟩ := p_remL (x1 := x1) (M := M)
    have e25 : N0.1 36 25 = nI 12 := by rw [r2 36 (by omega)]; exact h
    obtain ⟨N, e1, l1, l2, l3, l4, l5⟩ := step (zSI N0 36 25 (nI 11)) 11 (by omega) (by rw [gSI, if_pos ⟨rfl, rfl⟩])
    refine ⟨N, ?_, l1.trans r1, fun k k1 k2 => by rw [l2 k k1 k2, zSI_other _ _ _ k1]; exact r2 k k2, fun j hj => by rw [l3 j hj, gSI, if_neg (by omega), r2 36 (by omega)], by rw [l4]; rfl, fun j hj => ?_⟩
    · rw [h, if_pos (show nI 12 = 12 from rfl), e0]
      simp only [Option.bind_some, zlet, e25, show nI 12 - 1 = nI 11 from nI_pred 11]
      exact e1
    · unfold rmJ
      rw [l5, show min 11 12 = 11 from rfl, if_pos (show 12 = 12 from rfl)]
      by_cases c : j < 26 * 11
      · rw [if_neg (by omega), if_pos c, gSI, if_neg (by omega), r3, if_pos (by omega)]
      · rw [if_pos (by omega), if_neg c, zSI_other _ _ _ hne.1, r2 x1 hne.2]
/-- the ring of what can be undone, one more -/
theorem RP.push {M N : zM} {n u x : Nat} (h8 : n ≤ 8) (hu : u ≤ 12) (hx : x < 13) (old : ∀ i, i < u → RW M n (80 + 5 * ((x + 13 - u + i) % 13)) 47 (26 * i)) (hW : RW M n 60 37 0) (e1 : N.1 9 1 = nI ((x + 1) % 13)) (e2 : N.1 9 2 = nI (min 12 (u + 1))) (e3 : N.1 36 25 = nI (min 12 (u + 1)))
    (hs : ∀ k, 80 ≤ k → k ≤ 144 → (k < 80 + 5 * x ∨ 80 + 5 * x + 4 < k) → N.1 k = M.1 k) (hn : ∀ c, 1 ≤ c → c ≤ 4 → ∀ t, t < 8 → N.1 (80 + 5 * x + c) t = M.1 (60 + c) t) (h4 : N.1 (80 + 5 * x) 4 = M.1 60 4) (h5 : N.1 (80 + 5 * x) 5 = M.1 60 5) (h47 : ∀ j, j < 26 * min 12 (u + 1) → N.1 47 j = rmJ M u 37 j) : RP N n := by
  refine ⟨min 12 (u + 1), (x + 1) % 13, by omega, Nat.mod_lt _ (by omega), e1, e2, e3, fun i hi => ?_⟩
  by_cases hl : i = min 11 u
  · have hsl : ((x + 1) % 13 + 13 - min 12 (u + 1) + i) % 13 = x := by omega
    rw [hsl]
    refine hW.copy h8 hn h4 h5 (fun j hj => ?_)
    rw [h47 _ (by omega)]
    unfold rmJ
    rw [if_neg (by omega), show 26 * i + j - 26 * min 11 u = 0 + j by omega]
  · have hi2 : i < min 11 u := by omega
    rcases Nat.lt_or_ge u 12 with hu2 | hu2
    · have hsl : ((x + 1) % 13 + 13 - min 12 (u + 1) + i) % 13 = (x + 13 - u + i) % 13 := by omega
      have hnx : (x + 13 - u + i) % 13 ≠ x := by omega
      have hlt : (x + 13 - u + i) % 13 < 13 := Nat.mod_lt _ (by omega)
      have o := old i (by omega)
      rw [hsl]
      generalize (x + 13 - u + i) % 13 = s at hnx hlt o ⊢
      refine o.copy h8 (fun c c1 c4 t ht => by rw [hs _ (by omega) (by omega) (by omega)]) (by rw [hs _ (by omega) (by omega) (by omega)]) (by rw [hs _ (by omega) (by omega) (by omega)]) (fun j hj => ?_)
      rw [h47 _ (by omega)]
      unfold rmJ
      rw [if_pos (by omega), if_neg (by omega)]
    · have : u = 12 := by omega
      subst this
      have hsl : ((x + 1) % 13 + 13 - min 12 (12 + 1) + i) % 13 = (x + 13 - 12 + (i + 1)) % 13 := by omega
      have hnx : (x + 13 - 12 + (i + 1)) % 13 ≠ x := by omega
      have hlt : (x + 13 - 12 + (i + 1)) % 13 < 13 := Nat.mod_lt _ (by omega)
      have o := old (i + 1) (by omega)
      rw [hsl]
      generalize (x + 13 - 12 + (i + 1)) % 13 = s at hnx hlt o ⊢
      refine o.copy h8 (fun c c1 c4 t ht => by rw [hs _ (by omega) (by omega) (by omega)]) (by rw [hs _ (by omega) (by omega) (by omega)]) (by rw [hs _ (by omega) (by omega) (by omega)]) (fun j hj => ?_)
      rw [h47 _ (by omega)]
      unfold rmJ
      rw [if_pos (by omega), if_pos rfl, show 26 * i + j + 26 = 26 * (i + 1) + j by omega]
/-! undo -/
theorem zrem13 {a : Nat} (h : a < 1000) : zrem (nI a) 13 = nI (a % 13) := pk_rem (a := a) (d := 13) (by omega) (by omega) (by omega)
theorem slotSH {s : Nat} (h : s < 13) : zSH (80 + 5 * s) = .inl 10 := (by decide +kernel : ∀ s, s < 13 → zSH (80 + 5 * s) = .inl 10) s h
theorem keptSH {s : Nat} (h : s < 2) : zSH (70 + 5 * s) = .inl 10 := (by decide +kernel : ∀ s, s < 2 → zSH (70 + 5 * s) = .inl 10) s h
theorem p_undoL {M : zM} {v : Nat} (h : M.1 36 25 = nI v) (hv : v < 12) : ∃ N, fX12_undo_L26 4000 0 M = some N ∧ N.2 = M.2 ∧ (∀ k, k ≠ 37 → N.1 k = M.1 k) ∧ ∀ j, j < 26 → N.1 37 j = M.1 47 (26 * v + j) := by
  refine zforI (fun n (s : Int32 × zM) => fX12_undo_L26 n s.1 s.2) (fun i s => s.1 = nI i ∧ s.2.2 = M.2 ∧ (∀ k, k ≠ 37 → s.2.1 k = M.1 k) ∧ ∀ j, j < i → s.2.1 37 j = M.1 47 (26 * v + j)) 26 (fun r => ∃ N, r = some N ∧ N.2 = M.2 ∧ (∀ k, k ≠ 37 → N.1 k = M.1 k) ∧ ∀ j, j < 26 → N.1 37 j = M.1 47 (26 * v + j)) ?_ ?_ 26 0 4000 (0, M) rfl (by omega) ⟨rfl, rfl, fun _ _ => rfl, fun j hj => absurd hj (by omega)⟩
  · rintro n i ⟨b, N⟩ hi ⟨q1, q2, q3, q4⟩
    dsimp only at q1 q2 q3 q4 ⊢
    subst q1
    have e : N.1 36 25 = nI v := by rw [q3 36 (by omega)]; exact h
    refine ⟨(nI (i + 1), zSI N 37 i (M.1 47 (26 * v + i))), ⟨rfl, q2, fun k hk => by rw [zSI_other _ _ _ hk]; exact q3 k hk, fun j hj => ?_⟩, ?_⟩
    · show (zSI N 37 i (M.1 47 (26 * v + i))).1 37 j = _
      rw [gSI]
      by_cases c : j = i
      · subst c; rw [if_pos ⟨rfl, rfl⟩]
      · rw [if_neg (fun z => c z.2)]; exact q4 j (by omega)
    · simp only [fX12_undo_L26, if_neg (show ¬ 26 ≤ nI i from leF (a := 26) hi (by omega)), e, show (26 : Int32) * nI v = nI (26 * v) from pk_mul 26 v, nI_add, if_pos (zinT (show 26 * v + i < 312 by omega) (by omega)), if_pos (zinT (show i < 26 by omega) (by omega)), nI_clamp (show i < 2 ^ 31 by omega), nI_clamp (show 26 * v + i < 2 ^ 31 by omega), zlet, nI_1, q3 47 (by omega)]
  · rintro n ⟨b, N⟩ ⟨q1, q2, q3, q4⟩
    dsimp only at q1 q2 q3 q4 ⊢
    subst q1
    exact ⟨N, by simp only [fX12_undo_L26, if_pos (show 26 ≤ nI 26 from leT (a := 26) (Nat.le_refl 26) (by omega))], q2, q3, q4⟩
theorem op_undo {M : zM} {N : Nat} (h : RAll M N) : OpS fX11_undo fX12_undo M N := by
  have h0 := h
  obtain ⟨n, nd, h1, h2, h3, h4, h5, h6, h7, h8, h9⟩ := h
  obtain ⟨u, x, a1, a2, a3, a4, a5, a6⟩ := h5
  have hn8 := h1.1.1
  rcases Nat.eq_zero_or_pos u with z | z
  · subst z
    refine opN (r := -1) h0 ?_ ?_
    · simp only [fX11_undo, fX2_bringBack, a4]
      rw [if_pos (show nI 0 = 0 from rfl)]
      rfl
    · have e : (zSI M 36 12 0).1 36 25 = nI 0 := by rw [gSI, if_neg (by omega)]; exact a5
      simp only [fX12_undo, zlet, e]
      rw [if_pos (show nI 0 = 0 from rfl)]
  · obtain ⟨v, rfl⟩ : ∃ v, u = v + 1 := ⟨u - 1, by omega⟩
    have hx' : (x + 12) % 13 < 13 := Nat.mod_lt _ (by omega)
    let Ma : zM := zSI (zSI M 9 2 (nI v)) 9 1 (nI ((x + 12) % 13))
    have sa : Sm [9] [] M Ma := (Sm.SI M _ _ (by decide) (by simp)).trans (Sm.SI _ _ _ (by decide) (by simp))
    obtain ⟨M1, e1, b1, b2, b3, b4, b5⟩ := p_become (x0 := 60) (x1 := 80 + 5 * ((x + 12) % 13)) (M := Ma) rfl (slotSH hx') (by omega)
    have ef : fX11_undo M = some (nI v, M1) := by
      have q1 : (zSI M 9 2 (nI v)).1 9 1 = nI x := by rw [gSI, if_neg (by omega)]; exact a3
      have q2 : zrem (nI x + 13 - 1) 13 = nI ((x + 12) % 13) := by
        rw [show nI x + 13 = nI (x + 12 + 1) from nI_add x 13, nI_pred, zrem13 (by omega)]
      have q3 : Ma.1 9 1 = nI ((x + 12) % 13) := by show (zSI _ 9 1 _).1 9 1 = _; rw [gSI, if_pos ⟨rfl, rfl⟩]
      have q4 : M1.1 9 2 = nI v := by
        rw [b2 9 (by omega)]
        show (zSI (zSI M 9 2 (nI v)) 9 1 _).1 9 2 = _
        rw [gSI, if_neg (by omega), gSI, if_pos ⟨rfl, rfl⟩]
      have q5 : fX2_bringBack 60 M = some (1, M1) := by
        simp only [fX2_bringBack, a4, if_neg (nI_ne0 (show 0 < v + 1 by omega) (by omega)), zlet, nI_pred, q1, q2]
        rw [show zSI (zSI M 9 2 (nI v)) 9 1 (nI ((x + 12) % 13)) = Ma from rfl, q3, if_pos (zinT hx' (by omega)), if_pos (show zSH 60 = .inl 10 from rfl), nI_clamp (by omega), e1]
        rfl
      unfold fX11_undo
      rw [q5]
      simp only [Option.bind_some, zp, show ¬ (1 : Int32) = 0 by decide, if_false, q4]
    have e25 : (zSI M1 36 12 0).1 36 25 = nI (v + 1) := by
      rw [gSI, if_neg (by omega), b2 36 (by omega)]
      show Ma.1 36 25 = _
      rw [sa.2.1 25 (by simp)]; exact a5
    obtain ⟨M2, e2, c1, c2, c3⟩ := p_undoL (M := zSI (zSI M1 36 12 0) 36 25 (nI v)) (v := v) (by rw [gSI, if_pos ⟨rfl, rfl⟩]) (by omega)
    have f25 : M2.1 36 25 = nI v := by rw [c2 36 (by omega), gSI, if_pos ⟨rfl, rfl⟩]
    refine ⟨nI v, M1, M2, ef, ?_, ?_⟩
    · simp only [fX12_undo, zlet, e25, if_neg (nI_ne0 (show 0 < v + 1 by omega) (by omega)), nI_pred, e2, Option.bind_some, f25]
    · have sm : Sm [9, 37, 60, 61, 62, 63, 64] [12, 25] M M2 := by
        refine ⟨fun k k1 k2 => ?_, fun j hj => ?_, ?_, ?_⟩
        · simp at k2
          rw [c2 k (by omega), zSI_other _ _ _ k1, zSI_other _ _ _ k1, b2 k (by omega), sa.1 k k1 (by simp; omega)]
        · simp at hj
          rw [c2 36 (by omega), gSI, if_neg (by omega), gSI, if_neg (by omega), b2 36 (by omega), sa.2.1 j (by simp)]
        · rw [c1]; show M1.2.2 19 = _; rw [b1]; rfl
        · rw [c1]; show M1.2.2 20 = _; rw [b1]; rfl
      have k47 : M2.1 47 = M.1 47 := sm.1 47 (by decide) (by decide)
      have ks : ∀ k, 80 ≤ k → M2.1 k = M.1 k := fun k hk => sm.1 k (by omega) (by simp; omega)
      have kc : ∀ k, 60 ≤ k → k ≤ 64 → M2.1 k = M1.1 k := fun k k1 k2 => by rw [c2 k (by omega), zSI_other _ _ _ (by omega), zSI_other _ _ _ (by omega)]
      have kM : ∀ k, 80 ≤ k → Ma.1 k = M.1 k := fun k hk => sa.1 k (by omega) (by simp; omega)
      have r2 : M2.2 = M.2 := by rw [c1]; show M1.2 = _; rw [b1]; rfl
      have oldv := a6 v (by omega)
      rw [show (x + 13 - (v + 1) + v) % 13 = (x + 12) % 13 by omega] at oldv
      refine ⟨n, nd, h1.sm sm rfl rfl, ?_, h3.sm sm rfl rfl, h4.of (sm.1 3 (by decide) (by decide)) (sm.2.1 11 (by decide)) (by rw [r2]), ?_, (h6.sm sm rfl rfl).up, h7.sm sm (by rw [sm.1 0 (by decide) (by decide)]) (by rw [sm.1 0 (by decide) (by decide)]) rfl, h8.sm sm rfl rfl, h9.sm sm rfl rfl⟩
      · refine oldv.copy hn8 (fun c d1 d2 t ht => ?_) ?_ ?_ (fun j hj => ?_)
        · rw [kc _ (by omega) (by omega), b3 c d1 d2 t ht, kM _ (by omega)]
        · rw [kc _ (by omega) (by omega), b4, kM _ (by omega)]
        · rw [kc _ (by omega) (by omega), b5, kM _ (by omega)]
        · rw [Nat.zero_add, c3 j hj, zSI_other _ _ _ (by decide), zSI_other _ _ _ (by decide), b2 47 (by omega), sa.1 47 (by decide) (by decide)]
      · refine ⟨v, (x + 12) % 13, by omega, hx', ?_, ?_, f25, fun i hi => ?_⟩
        · rw [c2 9 (by omega), zSI_other _ _ _ (by decide), zSI_other _ _ _ (by decide), b2 9 (by omega)]
          show (zSI _ 9 1 _).1 9 1 = _; rw [gSI, if_pos ⟨rfl, rfl⟩]
        · rw [c2 9 (by omega), zSI_other _ _ _ (by decide), zSI_other _ _ _ (by decide), b2 9 (by omega)]
          show (zSI (zSI M 9 2 (nI v)) 9 1 _).1 9 2 = _
          rw [gSI, if_neg (by omega), gSI, if_pos ⟨rfl, rfl⟩]
        · have o := a6 i (by omega)
          rw [show ((x + 12) % 13 + 13 - v + i) % 13 = (x + 13 - (v + 1) + i) % 13 by omega]
          exact o.fr (ks _ (by omega)) (ks _ (by omega)) (ks _ (by omega)) (ks _ (by omega)) (ks _ (by omega)) k47
/-! keep, again -/
theorem nar_b1 : vp_nar .boolean 1 = 1 := by decide +kernel
theorem nar_b0 : vp_nar .boolean 0 = 0 := by decide +kernel
theorem op_keep {M : zM} {N : Nat} (h : RAll M N) (y : Int32) : OpS (fX11_keep y) (fX12_keep y) M N := by
  have h0 := h
  obtain ⟨n, nd, h1, h2, h3, h4, h5, h6, h7, h8, h9⟩ := h
  have hn8 := h1.1.1
  rcases split_ix y (n := 2) (by omega) with q | ⟨i, hi, rfl⟩
  · refine opN (r := 0) h0 ?_ ?_
    · unfold fX11_keep
      by_cases c : y < 0
      · rw [if_pos c]
      · rcases q with q | q
        · exact absurd q c
        · rw [if_neg c, if_neg (fun z => by
            rw [Int32.lt_iff_toInt_lt] at z
            rw [Int32.le_iff_toInt_le, nI_toInt (by omega)] at q
            have : (2 : Int32).toInt = 2 := by decide
            omega)]
    · have e : fX12_in y 0 1 = 0 := in0 (n := 2) (by omega) q
      simp only [fX12_keep, zlet, e, if_true]
  · obtain ⟨Ma, e1, b1, b2, b3, b4, b5⟩ := p_become (x0 := 70 + 5 * i) (x1 := 60) (M := M) (keptSH hi) rfl (by omega)
    let M1 : zM := zSI Ma 12 i 1
    have q1 : ∀ k, k ≠ 12 → (k < 70 + 5 * i ∨ 70 + 5 * i + 4 < k) → M1.1 k = M.1 k := fun k k1 k2 => by
      show (zSI Ma 12 i 1).1 k = _
      rw [zSI_other _ _ _ k1, b2 k k2]
    have e37 : M1.1 36 37 = M.1 36 37 := by rw [q1 36 (by omega) (by omega)]
    let R0 : zM := zSI (zSI (zSI M1 36 12 0) 57 i 1) 58 i (M.1 36 37)
    obtain ⟨M2, e2, c1, c2, c3⟩ := p_lay (x0 := 37) (x1 := 56) (o := 26 * i) (l0 := 26) (l1 := 52) (M := R0) rfl rfl (by omega) (by omega) (by decide) (by omega)
    have i31 : i < 2 ^ 31 := by omega
    refine ⟨1, M1, M2, ?_, ?_, ?_⟩
    · unfold fX11_keep
      rw [if_neg (nI_nneg i31), if_pos (show nI i < 2 from ltT (b := 2) hi (by omega)), if_pos (zinT hi i31), nI_clamp i31, e1, nar_b1]
      rfl
    · have e : ¬ fX12_in (nI i) 0 1 = 0 := by rw [show fX12_in (nI i) 0 1 = 1 from in1 (n := 2) (by omega) hi]; decide
      have q37 : (zSI (zSI M1 36 12 0) 57 i 1).1 36 37 = M.1 36 37 := by rw [zSI_other _ _ _ (by decide), gSI, if_neg (by omega)]; exact e37
      simp only [fX12_keep, zlet, if_neg e, if_pos (zinT hi i31), nI_clamp i31, nar_b1, q37]
      rw [show zSI (zSI (zSI M1 36 12 0) 57 i 1) 58 i (M.1 36 37) = R0 from rfl, show (26 : Int32) * nI i = nI (26 * i) from pk_mul 26 i, e2]
      rfl
    · have sm : Sm ([12, 56, 57, 58] ++ keptL) [12] M M2 := by
        refine ⟨fun k k1 k2 => ?_, fun j hj => ?_, ?_, ?_⟩
        · have k3 : ¬ (70 ≤ k ∧ k ≤ 79) := fun z => k2 (List.mem_append_right _ (mem_kept z.1 z.2))
          have k4 : k ∉ [12, 56, 57, 58] := fun z => k2 (List.mem_append_left _ z)
          simp at k4
          rw [c2 k (by omega)]
          show (zSI (zSI (zSI M1 36 12 0) 57 i 1) 58 i (M.1 36 37)).1 k = _
          rw [zSI_other _ _ _ (by omega), zSI_other _ _ _ (by omega), zSI_other _ _ _ (by omega), q1 k (by omega) (by omega)]
        · simp at hj
          rw [c2 36 (by omega)]
          show (zSI (zSI (zSI M1 36 12 0) 57 i 1) 58 i (M.1 36 37)).1 36 j = _
          rw [zSI_other _ _ _ (by omega), zSI_other _ _ _ (by omega), gSI, if_neg (by omega), q1 36 (by omega) (by omega)]
        · rw [c1]; show Ma.2.2 19 = _; rw [b1]
        · rw [c1]; show Ma.2.2 20 = _; rw [b1]
      have r2 : M2.2 = M.2 := by rw [c1]; show Ma.2 = _; rw [b1]
      refine ⟨n, nd, h1.sm sm rfl rfl, h2.sm sm rfl (by omega), h3.sm sm rfl rfl, h4.of (sm.1 3 (by decide) (by decide)) (sm.2.1 11 (by decide)) (by rw [r2]), h5.sm sm rfl rfl, ?_, h7.sm sm (by rw [sm.1 0 (by decide) (by decide)]) (by rw [sm.1 0 (by decide) (by decide)]) rfl, h8.sm sm rfl rfl, h9.sm sm rfl rfl⟩
      obtain ⟨c, g1, g2, g3⟩ := h6
      have f37 : M2.1 36 37 = M.1 36 37 := sm.2.1 37 (by decide)
      have f12 : ∀ j, M2.1 12 j = if j = i then 1 else M.1 12 j := fun j => by
        rw [c2 12 (by omega)]
        show (zSI (zSI (zSI (zSI Ma 12 i 1) 36 12 0) 57 i 1) 58 i (M.1 36 37)).1 12 j = _
        rw [zSI_other _ _ _ (by omega), zSI_other _ _ _ (by omega), zSI_other _ _ _ (by omega), gSI]
        by_cases z : j = i
        · rw [if_pos ⟨rfl, z⟩, if_pos z]
        · rw [if_neg (fun w => z w.2), if_neg z, b2 12 (by omega)]
      have f57 : ∀ j, M2.1 57 j = if j = i then 1 else M.1 57 j := fun j => by
        rw [c2 57 (by omega)]
        show (zSI (zSI (zSI M1 36 12 0) 57 i 1) 58 i (M.1 36 37)).1 57 j = _
        rw [zSI_other _ _ _ (by omega), gSI]
        by_cases z : j = i
        · rw [if_pos ⟨rfl, z⟩, if_pos z]
        · rw [if_neg (fun w => z w.2), if_neg z, zSI_other _ _ _ (by omega), q1 57 (by omega) (by omega)]
      have f58 : ∀ j, M2.1 58 j = if j = i then M.1 36 37 else M.1 58 j := fun j => by
        rw [c2 58 (by omega)]
        show (zSI (zSI (zSI M1 36 12 0) 57 i 1) 58 i (M.1 36 37)).1 58 j = _
        rw [gSI]
        by_cases z : j = i
        · rw [if_pos ⟨rfl, z⟩, if_pos z]
        · rw [if_neg (fun w => z w.2), if_neg z, zSI_other _ _ _ (by omega), zSI_other _ _ _ (by omega), q1 58 (by omega) (by omega)]
      have kR : ∀ k, k ≠ 36 → k ≠ 57 → k ≠ 58 → R0.1 k = M1.1 k := fun k k1 k2 k3 => by
        show (zSI (zSI (zSI M1 36 12 0) 57 i 1) 58 i (M.1 36 37)).1 k = _
        rw [zSI_other _ _ _ k3, zSI_other _ _ _ k2, zSI_other _ _ _ k1]
      refine ⟨c, by omega, f37.trans g2, fun j hj => ?_⟩
      rw [f12, f57, f58, f37]
      by_cases z : j = i
      · subst z
        rw [if_pos rfl, if_pos rfl, if_pos rfl]
        refine ⟨Or.inr rfl, Or.inr rfl, ⟨c, Nat.le_refl c, g2⟩, ⟨fun _ => ⟨rfl, rfl⟩, fun _ => rfl⟩, fun _ => ?_⟩
        refine h2.copy hn8 (fun d d1 d2 t ht => ?_) ?_ ?_ (fun p hp => ?_)
        · rw [c2 _ (by omega), kR _ (by omega) (by omega) (by omega)]
          show (zSI Ma 12 j 1).1 _ t = _
          rw [zSI_other _ _ _ (by omega), b3 d d1 d2 t ht]
        · rw [c2 _ (by omega), kR _ (by omega) (by omega) (by omega)]
          show (zSI Ma 12 j 1).1 _ 4 = _
          rw [zSI_other _ _ _ (by omega), b4]
        · rw [c2 _ (by omega), kR _ (by omega) (by omega) (by omega)]
          show (zSI Ma 12 j 1).1 _ 5 = _
          rw [zSI_other _ _ _ (by omega), b5]
        · rw [c3, if_pos ⟨by omega, by omega⟩, show 26 * j + p - 26 * j = 0 + p by omega, kR _ (by omega) (by omega) (by omega), q1 37 (by omega) (by omega)]
      · rw [if_neg z, if_neg z, if_neg z]
        obtain ⟨d1, d2, d3, d4, d5⟩ := g3 j hj
        refine ⟨d1, d2, d3, d4, fun w => ?_⟩
        have kk : ∀ k, 70 + 5 * j ≤ k → k ≤ 70 + 5 * j + 4 → M2.1 k = M.1 k := fun k k1 k2 => by
          rw [c2 k (by omega), kR _ (by omega) (by omega) (by omega), q1 k (by omega) (by omega)]
        refine (d5 w).copy hn8 (fun d d1 d2 t ht => by rw [kk _ (by omega) (by omega)]) (by rw [kk _ (by omega) (by omega)]) (by rw [kk _ (by omega) (by omega)]) (fun p hp => ?_)
        rw [c3, if_neg (by omega), kR _ (by omega) (by omega) (by omega), q1 56 (by omega) (by omega)]
theorem p_againL {M : zM} {v : Nat} (hv : v < 2) : ∃ N, fX12_again_L40 (nI v) 4000 0 M = some N ∧ N.2 = M.2 ∧ (∀ k, k ≠ 37 → N.1 k = M.1 k) ∧ ∀ j, j < 26 → N.1 37 j = M.1 56 (26 * v + j) := by
  refine zforI (fun n (s : Int32 × zM) => fX12_again_L40 (nI v) n s.1 s.2) (fun i s => s.1 = nI i ∧ s.2.2 = M.2 ∧ (∀ k, k ≠ 37 → s.2.1 k = M.1 k) ∧ ∀ j, j < i → s.2.1 37 j = M.1 56 (26 * v + j)) 26 (fun r => ∃ N, r = some N ∧ N.2 = M.2 ∧ (∀ k, k ≠ 37 → N.1 k = M.1 k) ∧ ∀ j, j < 26 → N.1 37 j = M.1 56 (26 * v + j)) ?_ ?_ 26 0 4000 (0, M) rfl (by omega) ⟨rfl, rfl, fun _ _ => rfl, fun j hj => absurd hj (by omega)⟩
  · rintro n i ⟨b, N⟩ hi ⟨q1, q2, q3, q4⟩
    dsimp only at q1 q2 q3 q4 ⊢
    subst q1
    refine ⟨(nI (i + 1), zSI N 37 i (M.1 56 (26 * v + i))), ⟨rfl, q2, fun k hk => by rw [zSI_other _ _ _ hk]; exact q3 k hk, fun j hj => ?_⟩, ?_⟩
    · show (zSI N 37 i (M.1 56 (26 * v + i))).1 37 j = _
      rw [gSI]
      by_cases c : j = i
      · subst c; rw [if_pos ⟨rfl, rfl⟩]
      · rw [if_neg (fun z => c z.2)]; exact q4 j (by omega)
    · simp only [fX12_again_L40, if_neg (show ¬ 26 ≤ nI i from leF (a := 26) hi (by omega)), show (26 : Int32) * nI v = nI (26 * v) from pk_mul 26 v, nI_add, if_pos (zinT (show 26 * v + i < 52 by omega) (by omega)), if_pos (zinT (show i < 26 by omega) (by omega)), nI_clamp (show i < 2 ^ 31 by omega), nI_clamp (show 26 * v + i < 2 ^ 31 by omega), zlet, nI_1, q3 56 (by omega)]
  · rintro n ⟨b, N⟩ ⟨q1, q2, q3, q4⟩
    dsimp only at q1 q2 q3 q4 ⊢
    subst q1
    exact ⟨N, by simp only [fX12_again_L40, if_pos (show 26 ≤ nI 26 from leT (a := 26) (Nat.le_refl 26) (by omega))], q2, q3, q4⟩
theorem op_again {M : zM} {N : Nat} (h : RAll M N) (y : Int32) : OpS (fX11_again y) (fX12_again y) M N := by
  have h0 := h
  obtain ⟨n, nd, h1, h2, h3, h4, h5, h6, h7, h8, h9⟩ := h
  have hn8 := h1.1.1
  rcases split_ix y (n := 2) (by omega) with q | ⟨i, hi, rfl⟩
  · refine opN (r := 0) h0 ?_ ?_
    · unfold fX11_again
      by_cases c : y < 0
      · rw [if_pos c]
      · rcases q with q | q
        · exact absurd q c
        · rw [if_neg c, if_pos (show 2 ≤ y from q)]
    · have e : fX12_in y 0 1 = 0 := in0 (n := 2) (by omega) q
      simp only [fX12_again, zlet, e, if_true]
  · have i31 : i < 2 ^ 31 := by omega
    have ein : ¬ fX12_in (nI i) 0 1 = 0 := by rw [show fX12_in (nI i) 0 1 = 1 from in1 (n := 2) (by omega) hi]; decide
    obtain ⟨c, g1, g2, g3⟩ := h6
    obtain ⟨d1, d2, d3, d4, d5⟩ := g3 i hi
    by_cases k1 : M.1 12 i = 1
    · obtain ⟨t1, t2⟩ := d4.mp k1
      obtain ⟨Ma, e1, b1, b2, b3, b4, b5⟩ := p_become (x0 := 60) (x1 := 70 + 5 * i) (M := M) rfl (keptSH hi) (by omega)
      let M1 : zM := zSI Ma 9 2 0
      have q1 : ∀ k, k ≠ 9 → (k < 60 ∨ 64 < k) → M1.1 k = M.1 k := fun k k1 k2 => by
        show (zSI Ma 9 2 0).1 k = _
        rw [zSI_other _ _ _ k1, b2 k (by omega)]
      obtain ⟨Mb, e2, c1, c2, c3⟩ := p_againL (M := zSI M1 36 12 0) hi
      refine ⟨1, M1, zSI Mb 36 25 0, ?_, ?_, ?_⟩
      · unfold fX11_again
        rw [if_neg (nI_nneg i31), if_neg (show ¬ 2 ≤ nI i from leF (a := 2) hi (by omega)), if_pos (zinT hi i31), nI_clamp i31, k1, if_neg (by decide), e1]
        rfl
      · have a57 : (zSI M1 36 12 0).1 57 i = 1 := by rw [zSI_other _ _ _ (by decide), q1 57 (by omega) (by omega)]; exact t1
        have a58 : (zSI M1 36 12 0).1 58 i = (zSI M1 36 12 0).1 36 37 := by
          rw [zSI_other _ _ _ (by decide), q1 58 (by omega) (by omega), gSI, if_neg (by omega), q1 36 (by omega) (by omega)]; exact t2
        simp only [fX12_again, zlet, if_neg ein, if_pos (zinT hi i31), nI_clamp i31, a57, a58, if_true, show ¬ (1 : Int32) = 0 by decide, if_false, e2, Option.bind_some]
      · have sm : Sm [9, 37, 60, 61, 62, 63, 64] [12, 25] M (zSI Mb 36 25 0) := by
          refine ⟨fun k k1 k2 => ?_, fun j hj => ?_, ?_, ?_⟩
          · simp at k2
            rw [zSI_other _ _ _ k1, c2 k (by omega), zSI_other _ _ _ k1, q1 k (by omega) (by omega)]
          · simp at hj
            rw [gSI, if_neg (by omega), c2 36 (by omega), gSI, if_neg (by omega), q1 36 (by omega) (by omega)]
          · show Mb.2.2 19 = _; rw [c1]; show Ma.2.2 19 = _; rw [b1]
          · show Mb.2.2 20 = _; rw [c1]; show Ma.2.2 20 = _; rw [b1]
        have r2 : Mb.2 = M.2 := by rw [c1]; show Ma.2 = _; rw [b1]
        have kc : ∀ k, 60 ≤ k → k ≤ 64 → (zSI Mb 36 25 0).1 k = Ma.1 k := fun k k1 k2 => by
          rw [zSI_other _ _ _ (by omega), c2 k (by omega), zSI_other _ _ _ (by omega)]
          show (zSI Ma 9 2 0).1 k = _
          rw [zSI_other _ _ _ (by omega)]
        refine ⟨n, nd, h1.sm sm rfl rfl, ?_, h3.sm sm rfl rfl, h4.of (sm.1 3 (by decide) (by decide)) (sm.2.1 11 (by decide)) (by show Mb.2.1 = _; rw [r2]), ?_, ((show RK M n N from ⟨c, g1, g2, g3⟩).sm sm rfl rfl).up, h7.sm sm (by rw [sm.1 0 (by decide) (by decide)]) (by rw [sm.1 0 (by decide) (by decide)]) rfl, h8.sm sm rfl rfl, h9.sm sm rfl rfl⟩
        · refine (d5 k1).copy hn8 (fun d d1 d2 t ht => by rw [kc _ (by omega) (by omega), b3 d d1 d2 t ht]) (by rw [kc _ (by omega) (by omega), b4]) (by rw [kc _ (by omega) (by omega), b5]) (fun j hj => ?_)
          rw [Nat.zero_add, zSI_other _ _ _ (by decide), c3 j hj, zSI_other _ _ _ (by decide), q1 56 (by omega) (by omega)]
        · obtain ⟨u, x, w1, w2, w3, w4, w5, w6⟩ := h5
          refine ⟨0, x, by omega, w2, ?_, ?_, ?_, fun i hi => absurd hi (by omega)⟩
          · rw [zSI_other _ _ _ (by decide), c2 9 (by omega), zSI_other _ _ _ (by decide)]
            show (zSI Ma 9 2 0).1 9 1 = _
            rw [gSI, if_neg (by omega), b2 9 (by omega)]; exact w3
          · rw [zSI_other _ _ _ (by decide), c2 9 (by omega), zSI_other _ _ _ (by decide)]
            show (zSI Ma 9 2 0).1 9 2 = _
            rw [gSI, if_pos ⟨rfl, rfl⟩]; rfl
          · rw [gSI, if_pos ⟨rfl, rfl⟩]; rfl
    · have k0 : M.1 12 i = 0 := d1.resolve_right k1
      refine opN (r := 0) h0 ?_ ?_
      · unfold fX11_again
        rw [if_neg (nI_nneg i31), if_neg (show ¬ 2 ≤ nI i from leF (a := 2) hi (by omega)), if_pos (zinT hi i31), nI_clamp i31, if_pos k0]
      · have a57 : (zSI M 36 12 0).1 57 i = M.1 57 i := by rw [zSI_other _ _ _ (by decide)]
        have a58 : (zSI M 36 12 0).1 58 i = M.1 58 i := by rw [zSI_other _ _ _ (by decide)]
        have a37 : (zSI M 36 12 0).1 36 37 = M.1 36 37 := by rw [gSI, if_neg (by omega)]
        simp only [fX12_again, zlet, if_neg ein, if_pos (zinT hi i31), nI_clamp i31, a57, a58, a37]
        rcases d2 with d2 | d2
        · rw [if_pos d2]
        · rw [if_neg (by rw [d2]; decide), if_neg (fun z => k1 (d4.mpr ⟨d2, z⟩))]
