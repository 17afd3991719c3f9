/-! hangs -/
def hgS (m : Nat → Int32) (o : Nat) (s : Int32 × Int32) : Int32 × Int32 := if m o &&& s.2 = 0 then s else (s.1 ||| zshl 1 (nI o), s.2 ||| m o)
def hgR (m : Nat → Int32) (nd : Nat) (s : Int32 × Int32) : Int32 × Int32 := fd (hgS m) s nd
def hgI (m : Nat → Int32) (nd : Nat) (s : Int32 × Int32) : Prop := ∀ o, o < nd → bt s.1 o = true → s.2 ||| m o = s.2
def hgC (nd : Nat) (s : Int32 × Int32) : Nat := ct (bt s.1) nd
theorem ct_lt {p q : Nat → Bool} : ∀ {n : Nat} {o : Nat}, (∀ t, t < n → p t = true → q t = true) → o < n → p o = false → q o = true → ct p n < ct q n
  | 0, o, _, h, _, _ => absurd h (Nat.not_lt_zero o)
  | n + 1, o, h, ho, h1, h2 => by
    show ct p n + (if p n = true then 1 else 0) < ct q n + (if q n = true then 1 else 0)
    by_cases e : o = n
    · subst e
      have := ct_mono (p := p) (q := q) (n := o) (fun t ht => h t (by omega))
      rw [h1, h2]
      simp
      omega
    · have := ct_lt (p := p) (q := q) (n := n) (o := o) (fun t ht => h t (by omega)) (by omega) h1 h2
      by_cases hp : p n = true
      · rw [if_pos hp, if_pos (h n (by omega) hp)]; omega
      · rw [if_neg hp]; split <;> omega
theorem or_or_self (x y z : Int32) (h : x ||| y = x) : (x ||| z) ||| y = x ||| z := by
  apply b_ext
  intro i hi
  have e := congrArg (fun w => bt w i) h
  simp only [b_or] at e ⊢
  cases h1 : bt x i <;> cases h2 : bt y i <;> cases h3 : bt z i <;> simp_all
theorem or_self_r (x y : Int32) : (x ||| y) ||| y = x ||| y := by
  apply b_ext
  intro i hi
  simp only [b_or]
  cases bt x i <;> cases bt y i <;> rfl
theorem hg_step {m : Nat → Int32} {nd o : Nat} (h6 : nd ≤ 6) (ho : o < nd) {s : Int32 × Int32} (h : hgI m nd s) : hgI m nd (hgS m o s) ∧ (∀ t, t < nd → bt s.1 t = true → bt (hgS m o s).1 t = true) ∧ (hgS m o s = s ∨ hgC nd s < hgC nd (hgS m o s)) := by
  unfold hgS
  by_cases c : m o &&& s.2 = 0
  · rw [if_pos c]
    exact ⟨h, fun _ _ z => z, Or.inl rfl⟩
  · rw [if_neg c]
    have hm : ∀ t, t < nd → bt s.1 t = true → bt (s.1 ||| zshl 1 (nI o)) t = true := fun t _ z => by rw [b_or, z]; rfl
    refine ⟨fun t ht z => ?_, hm, ?_⟩
    · show (s.2 ||| m o) ||| m t = s.2 ||| m o
      by_cases e : t = o
      · subst e
        exact or_self_r _ _
      · have z : bt (s.1 ||| zshl 1 (nI o)) t = true := z
        rw [b_or, bt_shl1 (by omega) (by omega)] at z
        exact or_or_self _ _ _ (h t ht (by simpa [e] using z))
    · by_cases b : bt s.1 o = true
      · left
        have e1 := h o ho b
        have e2 : s.1 ||| zshl 1 (nI o) = s.1 := by
          apply b_ext
          intro i hi
          rw [b_or, bt_shl1 (by omega) hi]
          by_cases q : i = o
          · subst q; simp [b]
          · simp [q]
        rw [e1, e2]
      · right
        exact ct_lt hm ho (by simpa using b) (by rw [b_or, bt_shl1 (by omega) (by omega)]; simp)
theorem hg_round {m : Nat → Int32} {nd : Nat} (h6 : nd ≤ 6) {s : Int32 × Int32} (h : hgI m nd s) : hgI m nd (hgR m nd s) ∧ (hgR m nd s = s ∨ hgC nd s < hgC nd (hgR m nd s)) := by
  have := fd_inv (f := hgS m) (s := s) (fun _ x => hgI m nd x ∧ (x = s ∨ hgC nd s < hgC nd x)) ⟨h, Or.inl rfl⟩ (n := nd) (fun i x hi hx => by
    obtain ⟨a, b, c⟩ := hg_step h6 hi hx.1
    refine ⟨a, ?_⟩
    rcases hx.2 with z | z
    · rcases c with c | c
      · left; rw [c, z]
      · right; rw [z] at c ⊢; exact c
    · right
      have : hgC nd x ≤ hgC nd (hgS m i x) := ct_mono b
      omega)
  exact this
theorem hg_all {m : Nat → Int32} {nd d : Nat} (h6 : nd ≤ 6) (hd : d < nd) : fd (fun _ => hgR m nd) (zshl 1 (nI d), m d) nd = fd (fun _ => hgR m nd) (zshl 1 (nI d), m d) 6 := by
  have hb : ∀ t, t < nd → bt (zshl 1 (nI d)) t = decide (t = d) := fun t ht => bt_shl1 (by omega) (by omega)
  have h0 : hgI m nd (zshl 1 (nI d), m d) := fun t ht z => by
    have z : bt (zshl 1 (nI d)) t = true := z
    rw [hb t ht] at z
    have : t = d := of_decide_eq_true z
    subst this
    show m t ||| m t = m t
    apply b_ext
    intro i hi
    rw [b_or]
    simp
  have h1 : 1 ≤ hgC nd (zshl 1 (nI d), m d) := by
    have := ct_lt (p := fun _ => false) (q := bt (zshl 1 (nI d))) (n := nd) (o := d) (fun _ _ z => by cases z) hd rfl (by rw [hb d hd]; simp)
    show 1 ≤ ct (bt (zshl 1 (nI d))) nd
    omega
  generalize (zshl 1 (nI d), m d) = s at h0 h1
  have hf := fd_inv (f := fun _ : Nat => hgR m nd) (s := s) (fun k x => hgI m nd x ∧ (hgR m nd x = x ∨ hgC nd s + k ≤ hgC nd x)) ⟨h0, Or.inr (Nat.le_refl _)⟩ (n := nd) (fun k x _ hx => by
    obtain ⟨a, b⟩ := hg_round h6 hx.1
    refine ⟨a, ?_⟩
    rcases hx.2 with z | z
    · left
      show hgR m nd (hgR m nd x) = hgR m nd x
      rw [z, z]
    · rcases b with b | b
      · left
        show hgR m nd (hgR m nd x) = hgR m nd x
        rw [b, b]
      · right
        show hgC nd s + (k + 1) ≤ hgC nd (hgR m nd x)
        omega)
  have hle : hgC nd (fd (fun _ => hgR m nd) s nd) ≤ nd := ct_le _ _
  have hst : hgR m nd (fd (fun _ => hgR m nd) s nd) = fd (fun _ => hgR m nd) s nd := by
    rcases hf.2 with z | z
    · exact z
    · omega
  have : ∀ k, fd (fun _ => hgR m nd) s (nd + k) = fd (fun _ => hgR m nd) s nd := by
    intro k
    induction k with
    | zero => rfl
    | succ k ih =>
      show hgR m nd (fd (fun _ => hgR m nd) s (nd + k)) = _
      rw [ih, hst]
  have := this (6 - nd)
  rw [show nd + (6 - nd) = 6 by omega] at this
  exact this.symm
theorem hgR_congr {m k : Nat → Int32} {nd : Nat} (h : ∀ t, t < nd → m t = k t) (s : Int32 × Int32) : hgR m nd s = hgR k nd s :=
  fd_congr (fun o z ho => by unfold hgS; rw [h o ho])
theorem op_hangs {M : zM} {n nd : Nat} (hS : RS M n nd) (hO : RO M) (x : Int32) : OpQ (fX11_hangs x) (fX12_hangs x) M := by
  obtain ⟨⟨h8, h6⟩, ⟨s1, s2, s3, s4⟩, -, -, hN⟩ := hS
  rcases split_ix x (n := nd) (by omega) with h | ⟨d, hd, rfl⟩
  · refine opR (r := -1) hO ?_ (fun N f => ?_)
    · unfold fX11_hangs
      exact wpO_tk (isDeedC0 s3 (by omega) h) (wpO_ret ⟨rfl, FrC.refl M, rfl, rfl⟩)
    · unfold fX12_hangs
      exact wM_thrown (fun N0 f0 a1 a2 _ => wpO_tk (isDeedM0 (n := nd) (by rw [((E12.ofC f).fr f0).2.1 2 rfl]; exact s4) (by omega) h) (wpO_ret ⟨rfl, f0, a1, by rw [a2]⟩))
  · have eC0 : ∀ (y : Int32) (s : Int32 × Int32), fX11_hangs_L42 y M 4000 s.1 s.2 0 = some (hgR (M.1 40) nd s) := fun y s => by
      rw [← hgR_congr (fun t ht => (hN t ht).1)]
      exact zfd (fun k (s : Int32 × Int32) i => fX11_hangs_L42 y M k s.1 s.2 i) (hgS (M.1 8)) (fun s => some s) s nd (by omega)
        (fun k i s hi => by
          simp only [fX11_hangs_L42, s3, if_neg (leF hi (by omega)), if_pos (zinT (show i < 6 by omega) (by omega)), nI_clamp (show i < 2 ^ 31 by omega), zlet, nI_1, hgS]
          split <;> rfl)
        (fun k s => by simp only [fX11_hangs_L42, s3, if_pos (leT (Nat.le_refl nd) (by omega))])
    have eC : fX11_hangs_L27 M 4000 (zshl 1 (nI d)) (M.1 40 d) 0 = some (fd (fun _ => hgR (M.1 40) nd) (zshl 1 (nI d), M.1 40 d) nd) :=
      zfd (fun k (s : Int32 × Int32) i => fX11_hangs_L27 M k s.1 s.2 i) (fun _ => hgR (M.1 40) nd) (fun s => some s) (zshl 1 (nI d), M.1 40 d) nd (by omega)
        (fun k i s hi => by simp only [fX11_hangs_L27, s3, if_neg (leF hi (by omega)), eC0, Option.bind_some, zp, nI_1])
        (fun k s => by simp only [fX11_hangs_L27, s3, if_pos (leT (Nat.le_refl nd) (by omega))])
    rw [hg_all h6 hd] at eC
    have eM : ∀ N, E12 M N → fX12_hangs_L29 N 4000 (zshl 1 (nI d)) (M.1 40 d) 0 = some (fd (fun _ => hgR (M.1 40) nd) (zshl 1 (nI d), M.1 40 d) 6) := fun N e => by
      have e2 : N.1 36 2 = nI nd := by rw [e.2.1 2 rfl]; exact s4
      have e40 : N.1 40 = M.1 40 := e.1 40 (by omega) (by omega) rfl
      have eM0 : ∀ (y : Int32) (s : Int32 × Int32), fX12_hangs_L39 y N 4000 s.1 s.2 0 = some (hgR (M.1 40) nd s) := fun y s =>
        zfd (fun k (s : Int32 × Int32) i => fX12_hangs_L39 y N k s.1 s.2 i) (hgS (M.1 40)) (fun s => some s) s nd (by omega)
          (fun k i s hi => by
            simp only [fX12_hangs_L39, e2, e40, if_neg (leF hi (by omega)), if_pos (zinT (show i < 6 by omega) (by omega)), nI_clamp (show i < 2 ^ 31 by omega), zlet, nI_1, hgS]
            split <;> rfl)
          (fun k s => by simp only [fX12_hangs_L39, e2, if_pos (leT (Nat.le_refl nd) (by omega))])
      exact zfd (fun k (s : Int32 × Int32) i => fX12_hangs_L29 N k s.1 s.2 i) (fun _ => hgR (M.1 40) nd) (fun s => some s) (zshl 1 (nI d), M.1 40 d) 6 (by omega)
        (fun k i s hi => by simp only [fX12_hangs_L29, if_neg (show ¬ 6 ≤ nI i from leF (a := 6) hi (by omega)), eM0, Option.bind_some, zp, nI_1])
        (fun k s => by simp only [fX12_hangs_L29, if_pos (show 6 ≤ nI 6 from leT (a := 6) (Nat.le_refl 6) (by omega))])
    generalize fd (fun _ => hgR (M.1 40) nd) (zshl 1 (nI d), M.1 40 d) 6 = A at eC eM
    obtain ⟨a, b⟩ := A
    refine opQ (r := a) (l := [b.toInt64]) (Nat.le_of_ble_eq_true rfl) ?_ (fun N f => ?_)
    · unfold fX11_hangs
      refine wpO_fk (by rw [isDeedC1 s3 (by omega) hd]; decide) (wpO_lk (wpO_tk (zinT (show d < 6 by omega) (by omega)) (wpO_lk ?_)))
      rw [nI_clamp (show d < 2 ^ 31 by omega), (hN d hd).1]
      exact wpO_ek eC (wpO_pk (wC_begin (fun N1 f1 r1 => wC_tell r1 (Nat.le_of_ble_eq_true rfl) (fun N2 f2 r2 => wpO_ret ⟨rfl, f1.trans f2, r2⟩))))
    · unfold fX12_hangs
      refine wM_thrown (fun N0 f0 _ _ _ => wpO_fk (by rw [isDeedM1 (n := nd) (by rw [((E12.ofC f).fr f0).2.1 2 rfl]; exact s4) (by omega) hd]; decide) (wpO_lk (wpO_tk (zinT (show d < 6 by omega) (by omega)) (wpO_lk ?_))))
      rw [nI_clamp (show d < 2 ^ 31 by omega), ((E12.ofC f).fr f0).1 40 (by omega) (by omega) rfl]
      exact wpO_ek (eM N0 ((E12.ofC f).fr f0)) (wpO_pk (wM_begin (fun N1 f1 r1 => wM_tell r1 (Nat.le_of_ble_eq_true rfl) (fun N2 f2 r2 => wpO_ret ⟨rfl, (f0.trans f1).trans f2, r2⟩))))
/-! advantage -/
def avW (M : zM) (n p : Nat) : Int32 := sWorth M n (sHad M n (nI p))
def avS (M : zM) (n p b : Nat) : Nat := if avW M n b < avW M n p then p else b
theorem avS_lt {M : zM} {n : Nat} : ∀ {k}, k ≤ 5 → fd (fun i => avS M n (1 + i)) 0 k < 6
  | 0, _ => by show 0 < 6; omega
  | k + 1, h => by
    have := avS_lt (M := M) (n := n) (k := k) (by omega)
    show avS M n (1 + k) (fd (fun i => avS M n (1 + i)) 0 k) < 6
    generalize fd (fun i => avS M n (1 + i)) 0 k = b at this ⊢
    unfold avS
    split <;> omega
theorem op_advantage {M : zM} {n nd : Nat} (hS : RS M n nd) (hW : RW M n 60 37 0) : OpQ fX11_advantage fX12_advantage M := by
  have hS0 := hS
  obtain ⟨⟨h8, h6⟩, ⟨s1, s2, s3, s4⟩, -, -, hN⟩ := hS
  have hb := avS_lt (M := M) (n := n) (k := 5) (by omega)
  have eC : fX11_advantage_L20 M 4000 0 (avW M n 0) 1 = some (nI (fd (fun i => avS M n (1 + i)) 0 5), avW M n (fd (fun i => avS M n (1 + i)) 0 5)) := by
    have h := zfdA (fun k (b : Nat) i => fX11_advantage_L20 M k (nI b) (avW M n b) i) (fun p b => avS M n p b) (fun b => some (nI b, avW M n b)) (fun _ b => b < 6) 0 1 6 4000 (by omega) (by omega) (by omega)
      (fun p b h1 h2 h3 => by show avS M n p b < 6; unfold avS; split <;> omega)
      (fun k p b h1 h2 h3 => by
        simp only [fX11_advantage_L20, if_neg (show ¬ 6 ≤ nI p from leF (a := 6) h2 (by omega)), cHeld hS0 hW (FrC.refl M) (show p ≤ 6 by omega), Option.bind_some, cWorth hS0 (FrC.refl M), zlet, nI_1, ite_le]
        show fX11_advantage_L20 M k (if avW M n b < avW M n p then nI p else nI b) (if avW M n b < avW M n p then avW M n p else avW M n b) (nI (p + 1)) = _
        unfold avS
        split <;> rfl)
      (fun k b _ => by simp only [fX11_advantage_L20, if_pos (show 6 ≤ nI 6 from leT (a := 6) (Nat.le_refl 6) (by omega))])
    exact h
  have eM : ∀ N, E12 M N → fX12_advantage_L9 N 4000 0 1 = some (nI (fd (fun i => avS M n (1 + i)) 0 5)) := fun N e => by
    have h := zfdA (fun k (b : Nat) i => fX12_advantage_L9 N k (nI b) i) (fun p b => avS M n p b) (fun b => some (nI b)) (fun _ b => b < 6) 0 1 6 4000 (by omega) (by omega) (by omega)
      (fun p b h1 h2 h3 => by show avS M n p b < 6; unfold avS; split <;> omega)
      (fun k p b h1 h2 h3 => by
        simp only [fX12_advantage_L9, if_neg (show ¬ 6 ≤ nI p from leF (a := 6) h2 (by omega)), mHad s2 h8 e, Option.bind_some, mWorth s2 h8 e, zlet, nI_1, ite_le]
        show fX12_advantage_L9 N k (if avW M n b < avW M n p then nI p else nI b) (nI (p + 1)) = _
        unfold avS
        split <;> rfl)
      (fun k b _ => by simp only [fX12_advantage_L9, if_pos (show 6 ≤ nI 6 from leT (a := 6) (Nat.le_refl 6) (by omega))])
    exact h
  generalize fd (fun i => avS M n (1 + i)) 0 5 = b at eC eM hb
  refine opQ (r := nI b) (l := [(avW M n b).toInt64, (sHad M n (nI b)).toInt64]) (Nat.le_of_ble_eq_true rfl) ?_ (fun N f => ?_)
  · unfold fX11_advantage
    refine wpO_ek (cHeld (q := 0) hS0 hW (FrC.refl M) (by omega)) (wpO_ek (cWorth hS0 (FrC.refl M) _) ?_)
    exact wpO_ek eC (wpO_pk (wC_begin (fun N1 f1 r1 => wC_tell r1 (Nat.le_of_ble_eq_true rfl) (fun N2 f2 r2 => wpO_ek (cHeld hS0 hW (f1.trans f2) (show b ≤ 6 by omega)) (wC_tell r2 (Nat.le_of_ble_eq_true rfl) (fun N3 f3 r3 => wpO_ret ⟨rfl, (f1.trans f2).trans f3, r3⟩))))))
  · unfold fX12_advantage
    exact wM_thrown (fun N0 f0 _ _ _ => wpO_ek (eM N0 ((E12.ofC f).fr f0)) (wM_begin (fun N1 f1 r1 => wpO_ek (mHad s2 h8 ((E12.ofC f).fr (f0.trans f1)) _) (wpO_ek (mWorth s2 h8 ((E12.ofC f).fr (f0.trans f1)) _) (wM_tell r1 (Nat.le_of_ble_eq_true rfl) (fun N2 f2 r2 => wpO_ek (mHad s2 h8 ((E12.ofC f).fr ((f0.trans f1).trans f2)) _) (wM_tell r2 (Nat.le_of_ble_eq_true rfl) (fun N3 f3 r3 => wpO_ret ⟨rfl, ((f0.trans f1).trans f2).trans f3, r3⟩))))))))
/-! soonest -/
def suU (M : zM) (t : Nat) : Int32 := zmax 1 (M.1 36 3 - M.1 37 (16 + t))
def suS (M : zM) (t : Nat) (s : Option Nat) : Option Nat := if M.1 37 t = 2 then (match s with | none => some t | some b => if suU M t < suU M b then some t else some b) else s
def suC (M : zM) : Option Nat → Int32 × Int32
  | none => (-1, 100)
  | some b => (nI b, suU M b)
def suM : Option Nat → Int32
  | none => -2
  | some b => nI b
theorem suU_le {M : zM} {n t : Nat} (hW : RW M n 60 37 0) (hC : RC M) (ht : t < n) (h2 : M.1 37 t = 2) : suU M t < 100 := by
  obtain ⟨⟨τ, h1, h99, e⟩, e3, -⟩ := hC
  rcases RWt_in (RW_t hW ht) with ⟨-, -, -, -, d, hd, ed⟩ | ⟨a, -⟩
  · unfold suU
    rw [← e3, e, ed, Int32.lt_iff_toInt_lt]
    have q : (nI τ - nI d).toInt = (τ : Int) - d := by
      rw [Int32.toInt_sub, nI_toInt (by omega), nI_toInt (by omega)]
      rw [Int.bmod_def]
      omega
    unfold zmax
    split
    · rw [q]; show (τ : Int) - d < 100; omega
    · show (1 : Int) < 100; omega
  · exact absurd h2 a
theorem op_soonest {M : zM} {n nd : Nat} (hS : RS M n nd) (hW : RW M n 60 37 0) (hC : RC M) (hO : RO M) : OpQ fX11_soonest fX12_soonest M := by
  obtain ⟨⟨h8, h6⟩, ⟨s1, s2, s3, s4⟩, -, -, hN⟩ := hS
  have hP : ∀ i (s : Option Nat), (∀ b, s = some b → b < n ∧ M.1 37 b = 2) → i < n → ∀ b, suS M i s = some b → b < n ∧ M.1 37 b = 2 := by
    intro i s h hi b hb
    unfold suS at hb
    split at hb
    · rename_i c
      cases s with
      | none => cases hb; exact ⟨hi, c⟩
      | some q =>
        dsimp only at hb
        split at hb
        · cases hb; exact ⟨hi, c⟩
        · have z := h q rfl
          cases hb
          exact z
    · exact h b hb
  have eC : fX11_soonest_L7 M 4000 (-1) 100 0 = some (suC M (fd (suS M) none n)) := by
    have h := zfdP (fun k (s : Option Nat) i => fX11_soonest_L7 M k (suC M s).1 (suC M s).2 i) (suS M) (fun s => some (suC M s)) (fun _ s => ∀ b, s = some b → b < n ∧ M.1 37 b = 2) none n (by omega) (fun b z => by cases z)
      (fun i s hi h => hP i s h hi)
      (fun k i s hi h => by
        simp only [fX11_soonest_L7, s1, if_neg (leF hi (by omega)), pX10_isIn (w := 60) rfl (show i < 8 by omega), pX10_daysLeft (w := 60) rfl (show i < 8 by omega), Option.bind_some, nI_1]
        rcases RWt_in (RW_t hW hi) with ⟨a1, a2, a3, -⟩ | ⟨a1, a2⟩
        · rw [if_neg a2, if_neg (by decide), hC.2.1, a3]
          show Option.bind (if (suC M s).2 ≤ suU M i then some ((suC M s).1, (suC M s).2) else some (nI i, suU M i)) _ = _
          rw [ite_le]
          unfold suS
          rw [if_pos a1]
          cases s with
          | none =>
            rw [if_pos (show suU M i < (suC M none).2 from suU_le hW hC hi a1)]
            rfl
          | some b =>
            show Option.bind (if suU M i < suU M b then _ else _) _ = _
            by_cases c : suU M i < suU M b
            · rw [if_pos c]; simp only [if_pos c]; rfl
            · rw [if_neg c]; simp only [if_neg c]; rfl
        · rw [if_pos a2, if_pos rfl]
          unfold suS
          rw [if_neg a1]
          rfl)
      (fun k s h => by simp only [fX11_soonest_L7, s1, if_pos (leT (Nat.le_refl n) (by omega))])
    exact h
  have eM : ∀ N, E12 M N → fX12_soonest_L10 N 4000 (-2) 0 = some (suM (fd (suS M) none n)) := fun N e => by
    have e1 : N.1 36 1 = nI n := by rw [e.2.1 1 rfl]; exact s2
    have e37 : N.1 37 = M.1 37 := e.1 37 (by omega) (by omega) rfl
    have e3 : N.1 36 3 = M.1 36 3 := e.2.1 3 rfl
    have eU : ∀ t, t < 8 → fX12_untilOf (nI t) N = some (suU M t) := fun t ht => by rw [pX12_untilOf ht, e37, e3]; rfl
    have h := zfdP (fun k (s : Option Nat) i => fX12_soonest_L10 N k (suM s) i) (suS M) (fun s => some (suM s)) (fun _ s => ∀ b, s = some b → b < n ∧ M.1 37 b = 2) none n (by omega) (fun b z => by cases z)
      (fun i s hi h => hP i s h hi)
      (fun k i s hi h => by
        simp only [fX12_soonest_L10, e1, e37, if_neg (leF hi (by omega)), if_pos (zinT (show i < 26 by omega) (by omega)), nI_clamp (show i < 2 ^ 31 by omega), eU i (by omega), Option.bind_some, nI_1, zj]
        unfold suS
        by_cases a1 : M.1 37 i = 2
        · rw [if_pos a1, if_pos a1]
          cases s with
          | none => rw [if_pos (show suM none = -2 from rfl)]; rfl
          | some b =>
            have hb := (h b rfl).1
            rw [if_neg (show ¬ suM (some b) = -2 from fun z => by
              have q : ¬ nI b < 0 := nI_nneg (by omega)
              rw [show nI b = -2 from z] at q
              exact q (by decide))]
            show Option.bind (Option.bind (fX12_untilOf (nI b) N) _) _ = _
            rw [eU b (by omega)]
            simp only [Option.bind_some, ite_le]
            by_cases c : suU M i < suU M b
            · rw [if_pos c, if_pos c]; rfl
            · rw [if_neg c, if_neg c]; rfl
        · rw [if_neg a1, if_neg a1]; rfl)
      (fun k s h => by simp only [fX12_soonest_L10, e1, if_pos (leT (Nat.le_refl n) (by omega))])
    exact h
  have hB := fd_inv (f := suS M) (s := none) (fun _ s => ∀ b, s = some b → b < n ∧ M.1 37 b = 2) (fun b z => by cases z) (n := n) (fun i s hi h => hP i s h hi)
  generalize fd (suS M) none n = A at eC eM hB
  cases A with
  | none =>
    refine opR (r := -2) hO ?_ (fun N f => ?_)
    · unfold fX11_soonest
      exact wpO_ek eC (wpO_pk (wpO_fk (by decide) (wpO_ret ⟨rfl, FrC.refl M, rfl, rfl⟩)))
    · unfold fX12_soonest
      exact wM_thrown (fun N0 f0 a1 a2 _ => wpO_ek (eM N0 ((E12.ofC f).fr f0)) (wpO_tk rfl (wpO_ret ⟨rfl, f0, a1, by rw [a2]⟩)))
  | some b =>
    obtain ⟨hb, h2⟩ := hB b rfl
    have hn0 : ¬ nI b = -2 := fun z => by
      have q : ¬ nI b < 0 := nI_nneg (by omega)
      rw [z] at q
      exact q (by decide)
    refine opQ (r := nI b) (l := [(suU M b).toInt64, (M.1 37 (8 + b)).toInt64]) (Nat.le_of_ble_eq_true rfl) ?_ (fun N f => ?_)
    · unfold fX11_soonest
      refine wpO_ek eC (wpO_pk (wpO_tk (show 0 ≤ nI b from leT (a := 0) (by omega) (by omega)) (wC_begin (fun N1 f1 r1 => wC_tell r1 (Nat.le_of_ble_eq_true rfl) (fun N2 f2 r2 => wpO_tk (zinT (show b < 8 by omega) (by omega)) ?_)))))
      rw [nI_clamp (show b < 2 ^ 31 by omega), (f1.trans f2).2.2.2.1 64 rfl]
      rcases RWt_in (RW_t hW hb) with ⟨-, -, -, e4, -⟩ | ⟨a, -⟩
      · rw [e4]
        exact wC_tell r2 (Nat.le_of_ble_eq_true rfl) (fun N3 f3 r3 => wpO_ret ⟨rfl, (f1.trans f2).trans f3, r3⟩)
      · exact absurd h2 a
    · unfold fX12_soonest
      refine wM_thrown (fun N0 f0 _ _ _ => wpO_ek (eM N0 ((E12.ofC f).fr f0)) (wpO_fk hn0 (wM_begin (fun N1 f1 r1 => ?_))))
      have g1 := (E12.ofC f).fr (f0.trans f1)
      have eU : fX12_untilOf (nI b) N1 = some (suU M b) := by rw [pX12_untilOf (by omega), g1.1 37 (by omega) (by omega) rfl, g1.2.1 3 rfl]; rfl
      refine wpO_ek eU (wM_tell r1 (Nat.le_of_ble_eq_true rfl) (fun N2 f2 r2 => ?_))
      rw [show (8 : Int32) + suM (some b) = nI (8 + b) from nI_add 8 b]
      refine wpO_tk (zinT (show 8 + b < 26 by omega) (by omega)) ?_
      rw [nI_clamp (show 8 + b < 2 ^ 31 by omega), ((E12.ofC f).fr ((f0.trans f1).trans f2)).1 37 (by omega) (by omega) rfl]
      exact wM_tell r2 (Nat.le_of_ble_eq_true rfl) (fun N3 f3 r3 => wpO_ret ⟨rfl, ((f0.trans f1).trans f2).trans f3, r3⟩)
/-! count -/
theorem op_count {M : zM} {n nd : Nat} (hS : RS M n nd) (hW : RW M n 60 37 0) (hC : RC M) (hH : RH M) (hP : RP M n) (hX : RX M) (hO : RO M) (x : Int32) : OpQ (fun M => (fX11_count x M).map (fun r => (r, M))) (fX12_count x) M := by
  have hS0 := hS
  obtain ⟨⟨h8, h6⟩, ⟨s1, s2, s3, s4⟩, -, -, hN⟩ := hS
  obtain ⟨u, q, hu, -, -, p1, p2, -⟩ := hP
  obtain ⟨s, -, t1, t2, -⟩ := hH
  obtain ⟨k, -, k1, k2, -⟩ := hX
  obtain ⟨-, c1, c2, -⟩ := hC
  have hO0 := hO
  obtain ⟨l, -, o1, o2⟩ := hO
  have w1 : M.1 60 4 = M.1 37 24 := hW.2.2.1
  have w2 : M.1 60 5 = M.1 37 25 := hW.2.2.2
  have key : ∃ r, fX11_count x M = some r ∧ ∀ N, E12 M N → N.1 36 11 = M.1 36 11 → fX12_count x N = some (r, zSI N 36 12 0) := by
    unfold fX11_count fX12_count
    have e0 : ∀ N, E12 M N → E12 M (zSI N 36 12 0) := fun N e => e.fr (FrM.SI N 36 12 0 rfl (by omega) (fun _ => rfl))
    have g11 : ∀ N : zM, (zSI N 36 12 0).1 36 11 = N.1 36 11 := fun N => by rw [gSI]; simp
    by_cases h : x = 0
    · simp only [if_pos h, zlet]
      exact ⟨_, rfl, fun N e _ => by rw [(e0 N e).2.1 1 rfl, s1, s2]⟩
    simp only [if_neg h]; clear h
    by_cases h : x = 1
    · simp only [if_pos h, zlet]
      exact ⟨_, rfl, fun N e _ => by rw [(e0 N e).2.1 2 rfl, s3, s4]⟩
    simp only [if_neg h]; clear h
    by_cases h : x = 2
    · simp only [if_pos h, zlet]
      exact ⟨_, rfl, fun N e _ => by rw [(e0 N e).2.1 3 rfl, c1]⟩
    simp only [if_neg h]; clear h
    by_cases h : x = 3
    · simp only [if_pos h, zlet]
      exact ⟨_, rfl, fun N e _ => by rw [(e0 N e).2.1 4 rfl, c2]⟩
    simp only [if_neg h]; clear h
    by_cases h : x = 4
    · simp only [if_pos h, zlet]
      exact ⟨_, rfl, fun N e _ => by rw [(e0 N e).1 37 (by omega) (by omega) rfl, w1]⟩
    simp only [if_neg h]; clear h
    by_cases h : x = 5
    · simp only [if_pos h, zlet]
      exact ⟨_, rfl, fun N e _ => by rw [(e0 N e).1 37 (by omega) (by omega) rfl, w2]⟩
    simp only [if_neg h]; clear h
    by_cases h : x = 6
    · simp only [if_pos h, zlet]
      exact ⟨_, by rw [show (6 : Int32) = nI 6 from rfl, cHeld hS0 hW (FrC.refl M) (Nat.le_refl 6)]; rfl, fun N e _ => by rw [show (6 : Int32) = nI 6 from rfl, mHad s2 h8 (e0 N e)]; rfl⟩
    simp only [if_neg h]; clear h
    by_cases h : x = 7
    · simp only [if_pos h, zlet]
      exact ⟨_, by rw [cLost hS0 hW (FrC.refl M)]; rfl, fun N e _ => by rw [mThose s2 h8 (e0 N e)]; rfl⟩
    simp only [if_neg h]; clear h
    by_cases h : x = 8
    · simp only [if_pos h, zlet]
      exact ⟨_, by rw [cInside hS0 hW (FrC.refl M)]; rfl, fun N e _ => by rw [mThose s2 h8 (e0 N e)]; rfl⟩
    simp only [if_neg h]; clear h
    by_cases h : x = 9
    · simp only [if_pos h, zlet]
      exact ⟨_, rfl, fun N e _ => by rw [(e0 N e).2.1 32 rfl, t1, t2]⟩
    simp only [if_neg h]; clear h
    by_cases h : x = 10
    · simp only [if_pos h, zlet]
      exact ⟨_, rfl, fun N e _ => by rw [(e0 N e).2.1 25 rfl, p1, p2]⟩
    simp only [if_neg h]; clear h
    by_cases h : x = 11
    · simp only [if_pos h, zlet]
      exact ⟨_, rfl, fun N e z => by rw [g11, z, o1.1, o2.1]⟩
    simp only [if_neg h]; clear h
    by_cases h : x = 12
    · simp only [if_pos h, zlet]
      exact ⟨_, rfl, fun N e _ => by rw [(e0 N e).2.1 9 rfl, k1, k2]⟩
    simp only [if_neg h, zlet]
    exact ⟨_, rfl, fun N e _ => rfl⟩
  obtain ⟨r, a, b⟩ := key
  refine opR (r := r) hO0 (cPure (f := fX11_count x) a) (fun N f => ⟨_, b N (E12.ofC f) (by rw [f.1 36 (by omega) (by omega)]), rfl, FrM.SI N 36 12 0 rfl (by omega) (fun _ => rfl), by rw [gSI]; simp, rfl⟩)
