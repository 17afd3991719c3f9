/-! WHERE ALL LIES when the loop begins -/
def zAd (q1 : Nat) (u : (Nat → Nat → Nat) × (Nat → Nat → Nat)) (q2 : Nat) (f : Nat → Nat) (q3 : Nat) (o : Nat → Nat) : Nat → Nat := fun k => if k < 60 then ([q1, (u.1 1 0), (u.1 1 1), (u.1 2 0), (u.1 2 1), (u.1 3 0), (u.1 3 1), (u.1 3 2), (u.1 3 3), (u.1 6 0), (u.1 6 1), (u.1 7 0), (u.1 8 0), (u.1 9 0), (u.1 9 1), (u.1 9 2), (u.1 9 3), (u.1 10 0), (u.1 10 1), (u.1 10 2), (u.1 10 3), (u.1 11 0), (u.1 12 0), (u.1 12 1), (u.1 12 2), (u.1 12 3), (u.1 13 0), (u.1 13 1), (u.1 13 2), (u.1 13 3), (u.1 14 0), (u.1 14 1), (u.1 14 2), (u.1 14 3), (u.1 15 0), (u.1 16 0), q2, (f 0), (f 1), (f 2), (f 3), (f 4), (f 5), (f 6), (f 7), (f 8), (f 9), (f 10), (f 11), (f 12), (f 13), (f 14), (f 15), (f 16), (f 17), (f 18), (f 19), (f 20), (f 21), q3] : List Nat).getD k 0 else if k < 65 then u.1 4 (k - 60) else if k < 70 then u.1 5 (k - 65) else if k < 75 then u.1 17 (k - 70) else if k < 80 then u.1 18 (k - 75) else if k < 145 then u.2 ((k - 80) / 5) ((k - 80) % 5) else o k
def m0 (k : Nat) : Nat → Int32 := if k = 0 then (fun j => if j = 17 then 30 else if j = 18 then 3 else 0) else if k = 36 then (fun j => if j = 3 then 30 else if j = 4 then 3 else 0) else if k = 13 then (fun j => if j = 3 then 9 else 0) else if k = 17 then (fun j => if j = 3 then 9 else 0) else if k = 14 then va_cpy (fun j => zPlain.getD j 0) (fun _ => 0) 0 0 9 else if k = 18 then va_cpy (fun j => zPlain.getD j 0) (fun _ => 0) 0 0 9 else if k < 60 then (fun _ => 0) else if k % 5 = 0 then (fun _ => 0) else fI 8
def M0 : zM := (m0, fun _ _ => 0, fun j => if j = 19 then some 44 else if j = 20 then some 45 else none)
def wL (E : kE) (q1 : Nat) (u : (Nat → Nat → Nat) × (Nat → Nat → Nat)) (q2 : Nat) (f : Nat → Nat) (q3 : Nat) : va_W := (([] ++ bX11 E q1 u) ++ bX12 E q2 f) ++ [(q3, .inl (E.2.2.1 1, 1, .inr (.inl (fun _ => 0))))]
theorem va_P.head {D : va_G} {cl : List vw_C} {w0 wc : va_W} {H : Heap} (hP : va_P D cl (w0 ++ wc) H) : va_P D cl w0 H := fun k q hq => hP k q (by rw [List.getElem?_append_left (List.getElem?_eq_some_iff.mp hq).1]; exact hq)
theorem fl_ {P : Nat → Prop} {n : Nat} (h : ∀ k, k < n → P k) (h2 : P n) : ∀ k, k < n + 1 → P k := fun k hk => (Nat.lt_succ_iff_lt_or_eq.mp hk).elim (h k) (fun z => z ▸ h2)
theorem at_q {D : va_G} {cl : List vw_C} {a n : Nat} {cA : ClassId} {f g : Nat → Option Nat} {H : Heap} (h : va_at D cl (a, .inl (cA, n, .inr (.inr (.inr (.inr f))))) H) (hfg : ∀ j, j < n → f j = g j) : va_at D cl (a, .inl (cA, n, .inr (.inr (.inr (.inr g))))) H := by
  have h1 : H[a]? = some (arrV cA n (fun j => va_rf (f j))) := h
  show H[a]? = some (arrV cA n (fun j => va_rf (g j)))
  rw [h1]
  unfold arrV
  congr 3
  funext j
  show va_rf (f j.val) = va_rf (g j.val)
  rw [hfg j.val j.isLt]
theorem bPs_P {E : kE} {D : va_G} {cl : List vw_C} {g : Nat → Nat → Nat} {H : Heap} : ∀ n, va_P D cl (bPs E n g) H → ∀ j, j < n → va_P D cl (bX10 E (g j 0) (fun i => g j (i + 1))) H
  | 0, _, j, hj => absurd hj (by omega)
  | n + 1, h, j, hj => by
    have h : va_P D cl (bPs E n g ++ bX10 E (g n 0) (fun i => g n (i + 1))) H := h
    by_cases z : j = n
    · subst z; exact h.tail
    · exact bPs_P n h.head j (by omega)
theorem bPs_at {E : kE} {D : va_G} {cl : List vw_C} {g : Nat → Nat → Nat} {H : Heap} (h : va_P D cl (bPs E 13 g) H) {j : Nat} (hj : j < 13) (i : Nat) {x : Nat × va_E} (hx : (bX10 E (g j 0) (fun i => g j (i + 1)))[i]? = some x) : va_at D cl x H := bPs_P 13 h j hj i x hx
theorem zAd_80 {o : Nat → Nat} (q1 : Nat) (u : (Nat → Nat → Nat) × (Nat → Nat → Nat)) (q2 : Nat) (f : Nat → Nat) (q3 : Nat) {j : Nat} (hj : j < 13) : zAd q1 u q2 f q3 o (80 + 5 * j) = u.2 j 0 := by
  unfold zAd
  rw [if_neg (by omega), if_neg (by omega), if_neg (by omega), if_neg (by omega), if_neg (by omega), if_pos (by omega), show (80 + 5 * j - 80) / 5 = j by omega, show (80 + 5 * j - 80) % 5 = 0 by omega]
set_option maxHeartbeats 4000000 in
theorem place_P {E : kE} {q1 : Nat} {u : (Nat → Nat → Nat) × (Nat → Nat → Nat)} {q2 : Nat} {f : Nat → Nat} {q3 : Nat} {o : Nat → Nat} {H : Heap} (hP : va_P E.2.1 vwCl (wL E q1 u q2 f q3) H) : va_P E.2.1 vwCl (zW E.2.2.1 (zAd q1 u q2 f q3 o) M0) H := by
  have hx := hP.tail
  have h12 : va_P E.2.1 vwCl (bX12 E q2 f) H := hP.head.tail
  have h11 : va_P E.2.1 vwCl (bX11 E q1 u) H := va_P.tail (w0 := []) hP.head.head
  have r17 : va_P E.2.1 vwCl ((((((((((((((((([] ++ bX9 E (u.1 1 0) (fun j => u.1 1 (j + 1))) ++ bX3 E (u.1 2 0) (fun j => u.1 2 (j + 1))) ++ bX7 E (u.1 3 0) (fun j => u.1 3 (j + 1))) ++ bX10 E (u.1 4 0) (fun j => u.1 4 (j + 1))) ++ bX10 E (u.1 5 0) (fun j => u.1 5 (j + 1))) ++ bX2 E (u.1 6 0) (u.1 6 1, u.2)) ++ [((u.1 8 0), .inl (E.2.2.1 2, 2, .inl (fun _ => 0)))]) ++ bX4 E (u.1 9 0) (fun j => u.1 9 (j + 1))) ++ bX4 E (u.1 10 0) (fun j => u.1 10 (j + 1))) ++ bX5 E (u.1 11 0) (u.1 1 0) (u.1 10 0) (fun j => u.1 11 (j + 1))) ++ bX0 E (u.1 12 0) (fun j => u.1 12 (j + 1))) ++ bX6 E (u.1 13 0) (fun j => u.1 13 (j + 1))) ++ bX8 E (u.1 14 0) (fun j => u.1 14 (j + 1))) ++ bX1 E (u.1 15 0) (fun j => u.1 15 (j + 1))) ++ [((u.1 16 0), .inl (E.2.2.1 0, 6, .inl (fun _ => 0)))]) ++ bX10 E (u.1 17 0) (fun j => u.1 17 (j + 1))) ++ bX10 E (u.1 18 0) (fun j => u.1 18 (j + 1))) H := fun k q hq => h11 (k + 2) q hq
  have tb : va_P E.2.1 vwCl (bX10 E (u.1 18 0) (fun j => u.1 18 (j + 1))) H := r17.tail
  have r16 : va_P E.2.1 vwCl (((((((((((((((([] ++ bX9 E (u.1 1 0) (fun j => u.1 1 (j + 1))) ++ bX3 E (u.1 2 0) (fun j => u.1 2 (j + 1))) ++ bX7 E (u.1 3 0) (fun j => u.1 3 (j + 1))) ++ bX10 E (u.1 4 0) (fun j => u.1 4 (j + 1))) ++ bX10 E (u.1 5 0) (fun j => u.1 5 (j + 1))) ++ bX2 E (u.1 6 0) (u.1 6 1, u.2)) ++ [((u.1 8 0), .inl (E.2.2.1 2, 2, .inl (fun _ => 0)))]) ++ bX4 E (u.1 9 0) (fun j => u.1 9 (j + 1))) ++ bX4 E (u.1 10 0) (fun j => u.1 10 (j + 1))) ++ bX5 E (u.1 11 0) (u.1 1 0) (u.1 10 0) (fun j => u.1 11 (j + 1))) ++ bX0 E (u.1 12 0) (fun j => u.1 12 (j + 1))) ++ bX6 E (u.1 13 0) (fun j => u.1 13 (j + 1))) ++ bX8 E (u.1 14 0) (fun j => u.1 14 (j + 1))) ++ bX1 E (u.1 15 0) (fun j => u.1 15 (j + 1))) ++ [((u.1 16 0), .inl (E.2.2.1 0, 6, .inl (fun _ => 0)))]) ++ bX10 E (u.1 17 0) (fun j => u.1 17 (j + 1))) H := r17.head
  have ta : va_P E.2.1 vwCl (bX10 E (u.1 17 0) (fun j => u.1 17 (j + 1))) H := r16.tail
  have r15 : va_P E.2.1 vwCl ((((((((((((((([] ++ bX9 E (u.1 1 0) (fun j => u.1 1 (j + 1))) ++ bX3 E (u.1 2 0) (fun j => u.1 2 (j + 1))) ++ bX7 E (u.1 3 0) (fun j => u.1 3 (j + 1))) ++ bX10 E (u.1 4 0) (fun j => u.1 4 (j + 1))) ++ bX10 E (u.1 5 0) (fun j => u.1 5 (j + 1))) ++ bX2 E (u.1 6 0) (u.1 6 1, u.2)) ++ [((u.1 8 0), .inl (E.2.2.1 2, 2, .inl (fun _ => 0)))]) ++ bX4 E (u.1 9 0) (fun j => u.1 9 (j + 1))) ++ bX4 E (u.1 10 0) (fun j => u.1 10 (j + 1))) ++ bX5 E (u.1 11 0) (u.1 1 0) (u.1 10 0) (fun j => u.1 11 (j + 1))) ++ bX0 E (u.1 12 0) (fun j => u.1 12 (j + 1))) ++ bX6 E (u.1 13 0) (fun j => u.1 13 (j + 1))) ++ bX8 E (u.1 14 0) (fun j => u.1 14 (j + 1))) ++ bX1 E (u.1 15 0) (fun j => u.1 15 (j + 1))) ++ [((u.1 16 0), .inl (E.2.2.1 0, 6, .inl (fun _ => 0)))]) H := r16.head
  have td : va_P E.2.1 vwCl ([((u.1 16 0), .inl (E.2.2.1 0, 6, .inl (fun _ => 0)))]) H := r15.tail
  have r14 : va_P E.2.1 vwCl (((((((((((((([] ++ bX9 E (u.1 1 0) (fun j => u.1 1 (j + 1))) ++ bX3 E (u.1 2 0) (fun j => u.1 2 (j + 1))) ++ bX7 E (u.1 3 0) (fun j => u.1 3 (j + 1))) ++ bX10 E (u.1 4 0) (fun j => u.1 4 (j + 1))) ++ bX10 E (u.1 5 0) (fun j => u.1 5 (j + 1))) ++ bX2 E (u.1 6 0) (u.1 6 1, u.2)) ++ [((u.1 8 0), .inl (E.2.2.1 2, 2, .inl (fun _ => 0)))]) ++ bX4 E (u.1 9 0) (fun j => u.1 9 (j + 1))) ++ bX4 E (u.1 10 0) (fun j => u.1 10 (j + 1))) ++ bX5 E (u.1 11 0) (u.1 1 0) (u.1 10 0) (fun j => u.1 11 (j + 1))) ++ bX0 E (u.1 12 0) (fun j => u.1 12 (j + 1))) ++ bX6 E (u.1 13 0) (fun j => u.1 13 (j + 1))) ++ bX8 E (u.1 14 0) (fun j => u.1 14 (j + 1))) ++ bX1 E (u.1 15 0) (fun j => u.1 15 (j + 1))) H := r15.head
  have t1 : va_P E.2.1 vwCl (bX1 E (u.1 15 0) (fun j => u.1 15 (j + 1))) H := r14.tail
  have r13 : va_P E.2.1 vwCl ((((((((((((([] ++ bX9 E (u.1 1 0) (fun j => u.1 1 (j + 1))) ++ bX3 E (u.1 2 0) (fun j => u.1 2 (j + 1))) ++ bX7 E (u.1 3 0) (fun j => u.1 3 (j + 1))) ++ bX10 E (u.1 4 0) (fun j => u.1 4 (j + 1))) ++ bX10 E (u.1 5 0) (fun j => u.1 5 (j + 1))) ++ bX2 E (u.1 6 0) (u.1 6 1, u.2)) ++ [((u.1 8 0), .inl (E.2.2.1 2, 2, .inl (fun _ => 0)))]) ++ bX4 E (u.1 9 0) (fun j => u.1 9 (j + 1))) ++ bX4 E (u.1 10 0) (fun j => u.1 10 (j + 1))) ++ bX5 E (u.1 11 0) (u.1 1 0) (u.1 10 0) (fun j => u.1 11 (j + 1))) ++ bX0 E (u.1 12 0) (fun j => u.1 12 (j + 1))) ++ bX6 E (u.1 13 0) (fun j => u.1 13 (j + 1))) ++ bX8 E (u.1 14 0) (fun j => u.1 14 (j + 1))) H := r14.head
  have t8 : va_P E.2.1 vwCl (bX8 E (u.1 14 0) (fun j => u.1 14 (j + 1))) H := r13.tail
  have r12 : va_P E.2.1 vwCl (((((((((((([] ++ bX9 E (u.1 1 0) (fun j => u.1 1 (j + 1))) ++ bX3 E (u.1 2 0) (fun j => u.1 2 (j + 1))) ++ bX7 E (u.1 3 0) (fun j => u.1 3 (j + 1))) ++ bX10 E (u.1 4 0) (fun j => u.1 4 (j + 1))) ++ bX10 E (u.1 5 0) (fun j => u.1 5 (j + 1))) ++ bX2 E (u.1 6 0) (u.1 6 1, u.2)) ++ [((u.1 8 0), .inl (E.2.2.1 2, 2, .inl (fun _ => 0)))]) ++ bX4 E (u.1 9 0) (fun j => u.1 9 (j + 1))) ++ bX4 E (u.1 10 0) (fun j => u.1 10 (j + 1))) ++ bX5 E (u.1 11 0) (u.1 1 0) (u.1 10 0) (fun j => u.1 11 (j + 1))) ++ bX0 E (u.1 12 0) (fun j => u.1 12 (j + 1))) ++ bX6 E (u.1 13 0) (fun j => u.1 13 (j + 1))) H := r13.head
  have t6 : va_P E.2.1 vwCl (bX6 E (u.1 13 0) (fun j => u.1 13 (j + 1))) H := r12.tail
  have r11 : va_P E.2.1 vwCl ((((((((((([] ++ bX9 E (u.1 1 0) (fun j => u.1 1 (j + 1))) ++ bX3 E (u.1 2 0) (fun j => u.1 2 (j + 1))) ++ bX7 E (u.1 3 0) (fun j => u.1 3 (j + 1))) ++ bX10 E (u.1 4 0) (fun j => u.1 4 (j + 1))) ++ bX10 E (u.1 5 0) (fun j => u.1 5 (j + 1))) ++ bX2 E (u.1 6 0) (u.1 6 1, u.2)) ++ [((u.1 8 0), .inl (E.2.2.1 2, 2, .inl (fun _ => 0)))]) ++ bX4 E (u.1 9 0) (fun j => u.1 9 (j + 1))) ++ bX4 E (u.1 10 0) (fun j => u.1 10 (j + 1))) ++ bX5 E (u.1 11 0) (u.1 1 0) (u.1 10 0) (fun j => u.1 11 (j + 1))) ++ bX0 E (u.1 12 0) (fun j => u.1 12 (j + 1))) H := r12.head
  have t0 : va_P E.2.1 vwCl (bX0 E (u.1 12 0) (fun j => u.1 12 (j + 1))) H := r11.tail
  have r10 : va_P E.2.1 vwCl (((((((((([] ++ bX9 E (u.1 1 0) (fun j => u.1 1 (j + 1))) ++ bX3 E (u.1 2 0) (fun j => u.1 2 (j + 1))) ++ bX7 E (u.1 3 0) (fun j => u.1 3 (j + 1))) ++ bX10 E (u.1 4 0) (fun j => u.1 4 (j + 1))) ++ bX10 E (u.1 5 0) (fun j => u.1 5 (j + 1))) ++ bX2 E (u.1 6 0) (u.1 6 1, u.2)) ++ [((u.1 8 0), .inl (E.2.2.1 2, 2, .inl (fun _ => 0)))]) ++ bX4 E (u.1 9 0) (fun j => u.1 9 (j + 1))) ++ bX4 E (u.1 10 0) (fun j => u.1 10 (j + 1))) ++ bX5 E (u.1 11 0) (u.1 1 0) (u.1 10 0) (fun j => u.1 11 (j + 1))) H := r11.head
  have t5 : va_P E.2.1 vwCl (bX5 E (u.1 11 0) (u.1 1 0) (u.1 10 0) (fun j => u.1 11 (j + 1))) H := r10.tail
  have r9 : va_P E.2.1 vwCl ((((((((([] ++ bX9 E (u.1 1 0) (fun j => u.1 1 (j + 1))) ++ bX3 E (u.1 2 0) (fun j => u.1 2 (j + 1))) ++ bX7 E (u.1 3 0) (fun j => u.1 3 (j + 1))) ++ bX10 E (u.1 4 0) (fun j => u.1 4 (j + 1))) ++ bX10 E (u.1 5 0) (fun j => u.1 5 (j + 1))) ++ bX2 E (u.1 6 0) (u.1 6 1, u.2)) ++ [((u.1 8 0), .inl (E.2.2.1 2, 2, .inl (fun _ => 0)))]) ++ bX4 E (u.1 9 0) (fun j => u.1 9 (j + 1))) ++ bX4 E (u.1 10 0) (fun j => u.1 10 (j + 1))) H := r10.head
  have t4b : va_P E.2.1 vwCl (bX4 E (u.1 10 0) (fun j => u.1 10 (j + 1))) H := r9.tail
  have r8 : va_P E.2.1 vwCl (((((((([] ++ bX9 E (u.1 1 0) (fun j => u.1 1 (j + 1))) ++ bX3 E (u.1 2 0) (fun j => u.1 2 (j + 1))) ++ bX7 E (u.1 3 0) (fun j => u.1 3 (j + 1))) ++ bX10 E (u.1 4 0) (fun j => u.1 4 (j + 1))) ++ bX10 E (u.1 5 0) (fun j => u.1 5 (j + 1))) ++ bX2 E (u.1 6 0) (u.1 6 1, u.2)) ++ [((u.1 8 0), .inl (E.2.2.1 2, 2, .inl (fun _ => 0)))]) ++ bX4 E (u.1 9 0) (fun j => u.1 9 (j + 1))) H := r9.head
  have t4 : va_P E.2.1 vwCl (bX4 E (u.1 9 0) (fun j => u.1 9 (j + 1))) H := r8.tail
  have r7 : va_P E.2.1 vwCl ((((((([] ++ bX9 E (u.1 1 0) (fun j => u.1 1 (j + 1))) ++ bX3 E (u.1 2 0) (fun j => u.1 2 (j + 1))) ++ bX7 E (u.1 3 0) (fun j => u.1 3 (j + 1))) ++ bX10 E (u.1 4 0) (fun j => u.1 4 (j + 1))) ++ bX10 E (u.1 5 0) (fun j => u.1 5 (j + 1))) ++ bX2 E (u.1 6 0) (u.1 6 1, u.2)) ++ [((u.1 8 0), .inl (E.2.2.1 2, 2, .inl (fun _ => 0)))]) H := r8.head
  have tk : va_P E.2.1 vwCl ([((u.1 8 0), .inl (E.2.2.1 2, 2, .inl (fun _ => 0)))]) H := r7.tail
  have r6 : va_P E.2.1 vwCl (((((([] ++ bX9 E (u.1 1 0) (fun j => u.1 1 (j + 1))) ++ bX3 E (u.1 2 0) (fun j => u.1 2 (j + 1))) ++ bX7 E (u.1 3 0) (fun j => u.1 3 (j + 1))) ++ bX10 E (u.1 4 0) (fun j => u.1 4 (j + 1))) ++ bX10 E (u.1 5 0) (fun j => u.1 5 (j + 1))) ++ bX2 E (u.1 6 0) (u.1 6 1, u.2)) H := r7.head
  have t2 : va_P E.2.1 vwCl (bX2 E (u.1 6 0) (u.1 6 1, u.2)) H := r6.tail
  have r5 : va_P E.2.1 vwCl ((((([] ++ bX9 E (u.1 1 0) (fun j => u.1 1 (j + 1))) ++ bX3 E (u.1 2 0) (fun j => u.1 2 (j + 1))) ++ bX7 E (u.1 3 0) (fun j => u.1 3 (j + 1))) ++ bX10 E (u.1 4 0) (fun j => u.1 4 (j + 1))) ++ bX10 E (u.1 5 0) (fun j => u.1 5 (j + 1))) H := r6.head
  have tt : va_P E.2.1 vwCl (bX10 E (u.1 5 0) (fun j => u.1 5 (j + 1))) H := r5.tail
  have r4 : va_P E.2.1 vwCl (((([] ++ bX9 E (u.1 1 0) (fun j => u.1 1 (j + 1))) ++ bX3 E (u.1 2 0) (fun j => u.1 2 (j + 1))) ++ bX7 E (u.1 3 0) (fun j => u.1 3 (j + 1))) ++ bX10 E (u.1 4 0) (fun j => u.1 4 (j + 1))) H := r5.head
  have tn : va_P E.2.1 vwCl (bX10 E (u.1 4 0) (fun j => u.1 4 (j + 1))) H := r4.tail
  have r3 : va_P E.2.1 vwCl ((([] ++ bX9 E (u.1 1 0) (fun j => u.1 1 (j + 1))) ++ bX3 E (u.1 2 0) (fun j => u.1 2 (j + 1))) ++ bX7 E (u.1 3 0) (fun j => u.1 3 (j + 1))) H := r4.head
  have t7 : va_P E.2.1 vwCl (bX7 E (u.1 3 0) (fun j => u.1 3 (j + 1))) H := r3.tail
  have r2 : va_P E.2.1 vwCl (([] ++ bX9 E (u.1 1 0) (fun j => u.1 1 (j + 1))) ++ bX3 E (u.1 2 0) (fun j => u.1 2 (j + 1))) H := r3.head
  have t3 : va_P E.2.1 vwCl (bX3 E (u.1 2 0) (fun j => u.1 2 (j + 1))) H := r2.tail
  have r1 : va_P E.2.1 vwCl ([] ++ bX9 E (u.1 1 0) (fun j => u.1 1 (j + 1))) H := r2.head
  have t9 : va_P E.2.1 vwCl (bX9 E (u.1 1 0) (fun j => u.1 1 (j + 1))) H := r1.tail
  have r0 : va_P E.2.1 vwCl [] H := r1.head
  have tP : va_P E.2.1 vwCl (bPs E 13 u.2) H := fun k q hq => t2 (k + 2) q hq
  have c0 : ∀ k, k < 0 → va_at E.2.1 vwCl (zAd q1 u q2 f q3 o k, zC E.2.2.1 (zAd q1 u q2 f q3 o) M0 k) H := fun k hk => absurd hk (by omega)
  have c1 : ∀ k, k < 1 → va_at E.2.1 vwCl (zAd q1 u q2 f q3 o k, zC E.2.2.1 (zAd q1 u q2 f q3 o) M0 k) H := fl_ c0 (h11 0 _ rfl)
  have c2 : ∀ k, k < 2 → va_at E.2.1 vwCl (zAd q1 u q2 f q3 o k, zC E.2.2.1 (zAd q1 u q2 f q3 o) M0 k) H := fl_ c1 (t9 0 _ rfl)
  have c3 : ∀ k, k < 3 → va_at E.2.1 vwCl (zAd q1 u q2 f q3 o k, zC E.2.2.1 (zAd q1 u q2 f q3 o) M0 k) H := fl_ c2 (t9 1 _ rfl)
  have c4 : ∀ k, k < 4 → va_at E.2.1 vwCl (zAd q1 u q2 f q3 o k, zC E.2.2.1 (zAd q1 u q2 f q3 o) M0 k) H := fl_ c3 (t3 0 _ rfl)
  have c5 : ∀ k, k < 5 → va_at E.2.1 vwCl (zAd q1 u q2 f q3 o k, zC E.2.2.1 (zAd q1 u q2 f q3 o) M0 k) H := fl_ c4 (t3 1 _ rfl)
  have c6 : ∀ k, k < 6 → va_at E.2.1 vwCl (zAd q1 u q2 f q3 o k, zC E.2.2.1 (zAd q1 u q2 f q3 o) M0 k) H := fl_ c5 (t7 0 _ rfl)
  have c7 : ∀ k, k < 7 → va_at E.2.1 vwCl (zAd q1 u q2 f q3 o k, zC E.2.2.1 (zAd q1 u q2 f q3 o) M0 k) H := fl_ c6 (t7 1 _ rfl)
  have c8 : ∀ k, k < 8 → va_at E.2.1 vwCl (zAd q1 u q2 f q3 o k, zC E.2.2.1 (zAd q1 u q2 f q3 o) M0 k) H := fl_ c7 (t7 2 _ rfl)
  have c9 : ∀ k, k < 9 → va_at E.2.1 vwCl (zAd q1 u q2 f q3 o k, zC E.2.2.1 (zAd q1 u q2 f q3 o) M0 k) H := fl_ c8 (t7 3 _ rfl)
  have c10 : ∀ k, k < 10 → va_at E.2.1 vwCl (zAd q1 u q2 f q3 o k, zC E.2.2.1 (zAd q1 u q2 f q3 o) M0 k) H := fl_ c9 (t2 0 _ rfl)
  have c11 : ∀ k, k < 11 → va_at E.2.1 vwCl (zAd q1 u q2 f q3 o k, zC E.2.2.1 (zAd q1 u q2 f q3 o) M0 k) H := fl_ c10 ((at_q (f := aP 13 u.2) (t2 1 _ rfl) (fun j hj => by unfold aP; rw [if_pos hj]; show _ = some (zAd q1 u q2 f q3 o (80 + 5 * j)); rw [zAd_80 q1 u q2 f q3 hj]) : va_at E.2.1 vwCl (u.1 6 1, .inl (E.2.2.1 4, 13, .inr (.inr (.inr (.inr (fun j => some (zAd q1 u q2 f q3 o (zRF 10 j)))))))) H))
  have c12 : ∀ k, k < 12 → va_at E.2.1 vwCl (zAd q1 u q2 f q3 o k, zC E.2.2.1 (zAd q1 u q2 f q3 o) M0 k) H := fl_ c11 ((at_q (f := va_up (va_up (fun _ => none) 0 (some (u.1 17 0))) 1 (some (u.1 18 0))) (h11 1 _ rfl) (fun j hj => by rcases (show j = 0 ∨ j = 1 by omega) with rfl | rfl <;> rfl) : va_at E.2.1 vwCl (u.1 7 0, .inl (E.2.2.1 4, 2, .inr (.inr (.inr (.inr (fun j => some (zAd q1 u q2 f q3 o (zRF 11 j)))))))) H))
  have c13 : ∀ k, k < 13 → va_at E.2.1 vwCl (zAd q1 u q2 f q3 o k, zC E.2.2.1 (zAd q1 u q2 f q3 o) M0 k) H := fl_ c12 (tk 0 _ rfl)
  have c14 : ∀ k, k < 14 → va_at E.2.1 vwCl (zAd q1 u q2 f q3 o k, zC E.2.2.1 (zAd q1 u q2 f q3 o) M0 k) H := fl_ c13 (t4 0 _ rfl)
  have c15 : ∀ k, k < 15 → va_at E.2.1 vwCl (zAd q1 u q2 f q3 o k, zC E.2.2.1 (zAd q1 u q2 f q3 o) M0 k) H := fl_ c14 (t4 1 _ rfl)
  have c16 : ∀ k, k < 16 → va_at E.2.1 vwCl (zAd q1 u q2 f q3 o k, zC E.2.2.1 (zAd q1 u q2 f q3 o) M0 k) H := fl_ c15 (t4 2 _ rfl)
  have c17 : ∀ k, k < 17 → va_at E.2.1 vwCl (zAd q1 u q2 f q3 o k, zC E.2.2.1 (zAd q1 u q2 f q3 o) M0 k) H := fl_ c16 (t4 3 _ rfl)
  have c18 : ∀ k, k < 18 → va_at E.2.1 vwCl (zAd q1 u q2 f q3 o k, zC E.2.2.1 (zAd q1 u q2 f q3 o) M0 k) H := fl_ c17 (t4b 0 _ rfl)
  have c19 : ∀ k, k < 19 → va_at E.2.1 vwCl (zAd q1 u q2 f q3 o k, zC E.2.2.1 (zAd q1 u q2 f q3 o) M0 k) H := fl_ c18 (t4b 1 _ rfl)
  have c20 : ∀ k, k < 20 → va_at E.2.1 vwCl (zAd q1 u q2 f q3 o k, zC E.2.2.1 (zAd q1 u q2 f q3 o) M0 k) H := fl_ c19 (t4b 2 _ rfl)
  have c21 : ∀ k, k < 21 → va_at E.2.1 vwCl (zAd q1 u q2 f q3 o k, zC E.2.2.1 (zAd q1 u q2 f q3 o) M0 k) H := fl_ c20 (t4b 3 _ rfl)
  have c22 : ∀ k, k < 22 → va_at E.2.1 vwCl (zAd q1 u q2 f q3 o k, zC E.2.2.1 (zAd q1 u q2 f q3 o) M0 k) H := fl_ c21 (t5 0 _ rfl)
  have c23 : ∀ k, k < 23 → va_at E.2.1 vwCl (zAd q1 u q2 f q3 o k, zC E.2.2.1 (zAd q1 u q2 f q3 o) M0 k) H := fl_ c22 (t0 0 _ rfl)
  have c24 : ∀ k, k < 24 → va_at E.2.1 vwCl (zAd q1 u q2 f q3 o k, zC E.2.2.1 (zAd q1 u q2 f q3 o) M0 k) H := fl_ c23 (t0 1 _ rfl)
  have c25 : ∀ k, k < 25 → va_at E.2.1 vwCl (zAd q1 u q2 f q3 o k, zC E.2.2.1 (zAd q1 u q2 f q3 o) M0 k) H := fl_ c24 (t0 2 _ rfl)
  have c26 : ∀ k, k < 26 → va_at E.2.1 vwCl (zAd q1 u q2 f q3 o k, zC E.2.2.1 (zAd q1 u q2 f q3 o) M0 k) H := fl_ c25 (t0 3 _ rfl)
  have c27 : ∀ k, k < 27 → va_at E.2.1 vwCl (zAd q1 u q2 f q3 o k, zC E.2.2.1 (zAd q1 u q2 f q3 o) M0 k) H := fl_ c26 (t6 0 _ rfl)
  have c28 : ∀ k, k < 28 → va_at E.2.1 vwCl (zAd q1 u q2 f q3 o k, zC E.2.2.1 (zAd q1 u q2 f q3 o) M0 k) H := fl_ c27 (t6 1 _ rfl)
  have c29 : ∀ k, k < 29 → va_at E.2.1 vwCl (zAd q1 u q2 f q3 o k, zC E.2.2.1 (zAd q1 u q2 f q3 o) M0 k) H := fl_ c28 (t6 2 _ rfl)
  have c30 : ∀ k, k < 30 → va_at E.2.1 vwCl (zAd q1 u q2 f q3 o k, zC E.2.2.1 (zAd q1 u q2 f q3 o) M0 k) H := fl_ c29 (t6 3 _ rfl)
  have c31 : ∀ k, k < 31 → va_at E.2.1 vwCl (zAd q1 u q2 f q3 o k, zC E.2.2.1 (zAd q1 u q2 f q3 o) M0 k) H := fl_ c30 (t8 0 _ rfl)
  have c32 : ∀ k, k < 32 → va_at E.2.1 vwCl (zAd q1 u q2 f q3 o k, zC E.2.2.1 (zAd q1 u q2 f q3 o) M0 k) H := fl_ c31 (t8 1 _ rfl)
  have c33 : ∀ k, k < 33 → va_at E.2.1 vwCl (zAd q1 u q2 f q3 o k, zC E.2.2.1 (zAd q1 u q2 f q3 o) M0 k) H := fl_ c32 (t8 2 _ rfl)
  have c34 : ∀ k, k < 34 → va_at E.2.1 vwCl (zAd q1 u q2 f q3 o k, zC E.2.2.1 (zAd q1 u q2 f q3 o) M0 k) H := fl_ c33 (t8 3 _ rfl)
  have c35 : ∀ k, k < 35 → va_at E.2.1 vwCl (zAd q1 u q2 f q3 o k, zC E.2.2.1 (zAd q1 u q2 f q3 o) M0 k) H := fl_ c34 (t1 0 _ rfl)
  have c36 : ∀ k, k < 36 → va_at E.2.1 vwCl (zAd q1 u q2 f q3 o k, zC E.2.2.1 (zAd q1 u q2 f q3 o) M0 k) H := fl_ c35 (td 0 _ rfl)
  have c37 : ∀ k, k < 37 → va_at E.2.1 vwCl (zAd q1 u q2 f q3 o k, zC E.2.2.1 (zAd q1 u q2 f q3 o) M0 k) H := fl_ c36 (h12 0 _ rfl)
  have c38 : ∀ k, k < 38 → va_at E.2.1 vwCl (zAd q1 u q2 f q3 o k, zC E.2.2.1 (zAd q1 u q2 f q3 o) M0 k) H := fl_ c37 (h12 1 _ rfl)
  have c39 : ∀ k, k < 39 → va_at E.2.1 vwCl (zAd q1 u q2 f q3 o k, zC E.2.2.1 (zAd q1 u q2 f q3 o) M0 k) H := fl_ c38 (h12 2 _ rfl)
  have c40 : ∀ k, k < 40 → va_at E.2.1 vwCl (zAd q1 u q2 f q3 o k, zC E.2.2.1 (zAd q1 u q2 f q3 o) M0 k) H := fl_ c39 (h12 3 _ rfl)
  have c41 : ∀ k, k < 41 → va_at E.2.1 vwCl (zAd q1 u q2 f q3 o k, zC E.2.2.1 (zAd q1 u q2 f q3 o) M0 k) H := fl_ c40 (h12 4 _ rfl)
  have c42 : ∀ k, k < 42 → va_at E.2.1 vwCl (zAd q1 u q2 f q3 o k, zC E.2.2.1 (zAd q1 u q2 f q3 o) M0 k) H := fl_ c41 (h12 5 _ rfl)
  have c43 : ∀ k, k < 43 → va_at E.2.1 vwCl (zAd q1 u q2 f q3 o k, zC E.2.2.1 (zAd q1 u q2 f q3 o) M0 k) H := fl_ c42 (h12 6 _ rfl)
  have c44 : ∀ k, k < 44 → va_at E.2.1 vwCl (zAd q1 u q2 f q3 o k, zC E.2.2.1 (zAd q1 u q2 f q3 o) M0 k) H := fl_ c43 (h12 7 _ rfl)
  have c45 : ∀ k, k < 45 → va_at E.2.1 vwCl (zAd q1 u q2 f q3 o k, zC E.2.2.1 (zAd q1 u q2 f q3 o) M0 k) H := fl_ c44 (h12 8 _ rfl)
  have c46 : ∀ k, k < 46 → va_at E.2.1 vwCl (zAd q1 u q2 f q3 o k, zC E.2.2.1 (zAd q1 u q2 f q3 o) M0 k) H := fl_ c45 (h12 9 _ rfl)
  have c47 : ∀ k, k < 47 → va_at E.2.1 vwCl (zAd q1 u q2 f q3 o k, zC E.2.2.1 (zAd q1 u q2 f q3 o) M0 k) H := fl_ c46 (h12 10 _ rfl)
  have c48 : ∀ k, k < 48 → va_at E.2.1 vwCl (zAd q1 u q2 f q3 o k, zC E.2.2.1 (zAd q1 u q2 f q3 o) M0 k) H := fl_ c47 (h12 11 _ rfl)
  have c49 : ∀ k, k < 49 → va_at E.2.1 vwCl (zAd q1 u q2 f q3 o k, zC E.2.2.1 (zAd q1 u q2 f q3 o) M0 k) H := fl_ c48 (h12 12 _ rfl)
  have c50 : ∀ k, k < 50 → va_at E.2.1 vwCl (zAd q1 u q2 f q3 o k, zC E.2.2.1 (zAd q1 u q2 f q3 o) M0 k) H := fl_ c49 (h12 13 _ rfl)
  have c51 : ∀ k, k < 51 → va_at E.2.1 vwCl (zAd q1 u q2 f q3 o k, zC E.2.2.1 (zAd q1 u q2 f q3 o) M0 k) H := fl_ c50 (h12 14 _ rfl)
  have c52 : ∀ k, k < 52 → va_at E.2.1 vwCl (zAd q1 u q2 f q3 o k, zC E.2.2.1 (zAd q1 u q2 f q3 o) M0 k) H := fl_ c51 (h12 15 _ rfl)
  have c53 : ∀ k, k < 53 → va_at E.2.1 vwCl (zAd q1 u q2 f q3 o k, zC E.2.2.1 (zAd q1 u q2 f q3 o) M0 k) H := fl_ c52 (h12 16 _ rfl)
  have c54 : ∀ k, k < 54 → va_at E.2.1 vwCl (zAd q1 u q2 f q3 o k, zC E.2.2.1 (zAd q1 u q2 f q3 o) M0 k) H := fl_ c53 (h12 17 _ rfl)
  have c55 : ∀ k, k < 55 → va_at E.2.1 vwCl (zAd q1 u q2 f q3 o k, zC E.2.2.1 (zAd q1 u q2 f q3 o) M0 k) H := fl_ c54 (h12 18 _ rfl)
  have c56 : ∀ k, k < 56 → va_at E.2.1 vwCl (zAd q1 u q2 f q3 o k, zC E.2.2.1 (zAd q1 u q2 f q3 o) M0 k) H := fl_ c55 (h12 19 _ rfl)
  have c57 : ∀ k, k < 57 → va_at E.2.1 vwCl (zAd q1 u q2 f q3 o k, zC E.2.2.1 (zAd q1 u q2 f q3 o) M0 k) H := fl_ c56 (h12 20 _ rfl)
  have c58 : ∀ k, k < 58 → va_at E.2.1 vwCl (zAd q1 u q2 f q3 o k, zC E.2.2.1 (zAd q1 u q2 f q3 o) M0 k) H := fl_ c57 (h12 21 _ rfl)
  have c59 : ∀ k, k < 59 → va_at E.2.1 vwCl (zAd q1 u q2 f q3 o k, zC E.2.2.1 (zAd q1 u q2 f q3 o) M0 k) H := fl_ c58 (h12 22 _ rfl)
  have c60 : ∀ k, k < 60 → va_at E.2.1 vwCl (zAd q1 u q2 f q3 o k, zC E.2.2.1 (zAd q1 u q2 f q3 o) M0 k) H := fl_ c59 (hx 0 _ rfl)
  have c61 : ∀ k, k < 61 → va_at E.2.1 vwCl (zAd q1 u q2 f q3 o k, zC E.2.2.1 (zAd q1 u q2 f q3 o) M0 k) H := fl_ c60 (tn 0 _ rfl)
  have c62 : ∀ k, k < 62 → va_at E.2.1 vwCl (zAd q1 u q2 f q3 o k, zC E.2.2.1 (zAd q1 u q2 f q3 o) M0 k) H := fl_ c61 (tn 1 _ rfl)
  have c63 : ∀ k, k < 63 → va_at E.2.1 vwCl (zAd q1 u q2 f q3 o k, zC E.2.2.1 (zAd q1 u q2 f q3 o) M0 k) H := fl_ c62 (tn 2 _ rfl)
  have c64 : ∀ k, k < 64 → va_at E.2.1 vwCl (zAd q1 u q2 f q3 o k, zC E.2.2.1 (zAd q1 u q2 f q3 o) M0 k) H := fl_ c63 (tn 3 _ rfl)
  have c65 : ∀ k, k < 65 → va_at E.2.1 vwCl (zAd q1 u q2 f q3 o k, zC E.2.2.1 (zAd q1 u q2 f q3 o) M0 k) H := fl_ c64 (tn 4 _ rfl)
  have c66 : ∀ k, k < 66 → va_at E.2.1 vwCl (zAd q1 u q2 f q3 o k, zC E.2.2.1 (zAd q1 u q2 f q3 o) M0 k) H := fl_ c65 (tt 0 _ rfl)
  have c67 : ∀ k, k < 67 → va_at E.2.1 vwCl (zAd q1 u q2 f q3 o k, zC E.2.2.1 (zAd q1 u q2 f q3 o) M0 k) H := fl_ c66 (tt 1 _ rfl)
  have c68 : ∀ k, k < 68 → va_at E.2.1 vwCl (zAd q1 u q2 f q3 o k, zC E.2.2.1 (zAd q1 u q2 f q3 o) M0 k) H := fl_ c67 (tt 2 _ rfl)
  have c69 : ∀ k, k < 69 → va_at E.2.1 vwCl (zAd q1 u q2 f q3 o k, zC E.2.2.1 (zAd q1 u q2 f q3 o) M0 k) H := fl_ c68 (tt 3 _ rfl)
  have c70 : ∀ k, k < 70 → va_at E.2.1 vwCl (zAd q1 u q2 f q3 o k, zC E.2.2.1 (zAd q1 u q2 f q3 o) M0 k) H := fl_ c69 (tt 4 _ rfl)
  have c71 : ∀ k, k < 71 → va_at E.2.1 vwCl (zAd q1 u q2 f q3 o k, zC E.2.2.1 (zAd q1 u q2 f q3 o) M0 k) H := fl_ c70 (ta 0 _ rfl)
  have c72 : ∀ k, k < 72 → va_at E.2.1 vwCl (zAd q1 u q2 f q3 o k, zC E.2.2.1 (zAd q1 u q2 f q3 o) M0 k) H := fl_ c71 (ta 1 _ rfl)
  have c73 : ∀ k, k < 73 → va_at E.2.1 vwCl (zAd q1 u q2 f q3 o k, zC E.2.2.1 (zAd q1 u q2 f q3 o) M0 k) H := fl_ c72 (ta 2 _ rfl)
  have c74 : ∀ k, k < 74 → va_at E.2.1 vwCl (zAd q1 u q2 f q3 o k, zC E.2.2.1 (zAd q1 u q2 f q3 o) M0 k) H := fl_ c73 (ta 3 _ rfl)
  have c75 : ∀ k, k < 75 → va_at E.2.1 vwCl (zAd q1 u q2 f q3 o k, zC E.2.2.1 (zAd q1 u q2 f q3 o) M0 k) H := fl_ c74 (ta 4 _ rfl)
  have c76 : ∀ k, k < 76 → va_at E.2.1 vwCl (zAd q1 u q2 f q3 o k, zC E.2.2.1 (zAd q1 u q2 f q3 o) M0 k) H := fl_ c75 (tb 0 _ rfl)
  have c77 : ∀ k, k < 77 → va_at E.2.1 vwCl (zAd q1 u q2 f q3 o k, zC E.2.2.1 (zAd q1 u q2 f q3 o) M0 k) H := fl_ c76 (tb 1 _ rfl)
  have c78 : ∀ k, k < 78 → va_at E.2.1 vwCl (zAd q1 u q2 f q3 o k, zC E.2.2.1 (zAd q1 u q2 f q3 o) M0 k) H := fl_ c77 (tb 2 _ rfl)
  have c79 : ∀ k, k < 79 → va_at E.2.1 vwCl (zAd q1 u q2 f q3 o k, zC E.2.2.1 (zAd q1 u q2 f q3 o) M0 k) H := fl_ c78 (tb 3 _ rfl)
  have c80 : ∀ k, k < 80 → va_at E.2.1 vwCl (zAd q1 u q2 f q3 o k, zC E.2.2.1 (zAd q1 u q2 f q3 o) M0 k) H := fl_ c79 (tb 4 _ rfl)
  have c81 : ∀ k, k < 81 → va_at E.2.1 vwCl (zAd q1 u q2 f q3 o k, zC E.2.2.1 (zAd q1 u q2 f q3 o) M0 k) H := fl_ c80 (bPs_at tP (j := 0) (by omega) 0 rfl)
  have c82 : ∀ k, k < 82 → va_at E.2.1 vwCl (zAd q1 u q2 f q3 o k, zC E.2.2.1 (zAd q1 u q2 f q3 o) M0 k) H := fl_ c81 (bPs_at tP (j := 0) (by omega) 1 rfl)
  have c83 : ∀ k, k < 83 → va_at E.2.1 vwCl (zAd q1 u q2 f q3 o k, zC E.2.2.1 (zAd q1 u q2 f q3 o) M0 k) H := fl_ c82 (bPs_at tP (j := 0) (by omega) 2 rfl)
  have c84 : ∀ k, k < 84 → va_at E.2.1 vwCl (zAd q1 u q2 f q3 o k, zC E.2.2.1 (zAd q1 u q2 f q3 o) M0 k) H := fl_ c83 (bPs_at tP (j := 0) (by omega) 3 rfl)
  have c85 : ∀ k, k < 85 → va_at E.2.1 vwCl (zAd q1 u q2 f q3 o k, zC E.2.2.1 (zAd q1 u q2 f q3 o) M0 k) H := fl_ c84 (bPs_at tP (j := 0) (by omega) 4 rfl)
  have c86 : ∀ k, k < 86 → va_at E.2.1 vwCl (zAd q1 u q2 f q3 o k, zC E.2.2.1 (zAd q1 u q2 f q3 o) M0 k) H := fl_ c85 (bPs_at tP (j := 1) (by omega) 0 rfl)
  have c87 : ∀ k, k < 87 → va_at E.2.1 vwCl (zAd q1 u q2 f q3 o k, zC E.2.2.1 (zAd q1 u q2 f q3 o) M0 k) H := fl_ c86 (bPs_at tP (j := 1) (by omega) 1 rfl)
  have c88 : ∀ k, k < 88 → va_at E.2.1 vwCl (zAd q1 u q2 f q3 o k, zC E.2.2.1 (zAd q1 u q2 f q3 o) M0 k) H := fl_ c87 (bPs_at tP (j := 1) (by omega) 2 rfl)
  have c89 : ∀ k, k < 89 → va_at E.2.1 vwCl (zAd q1 u q2 f q3 o k, zC E.2.2.1 (zAd q1 u q2 f q3 o) M0 k) H := fl_ c88 (bPs_at tP (j := 1) (by omega) 3 rfl)
  have c90 : ∀ k, k < 90 → va_at E.2.1 vwCl (zAd q1 u q2 f q3 o k, zC E.2.2.1 (zAd q1 u q2 f q3 o) M0 k) H := fl_ c89 (bPs_at tP (j := 1) (by omega) 4 rfl)
  have c91 : ∀ k, k < 91 → va_at E.2.1 vwCl (zAd q1 u q2 f q3 o k, zC E.2.2.1 (zAd q1 u q2 f q3 o) M0 k) H := fl_ c90 (bPs_at tP (j := 2) (by omega) 0 rfl)
  have c92 : ∀ k, k < 92 → va_at E.2.1 vwCl (zAd q1 u q2 f q3 o k, zC E.2.2.1 (zAd q1 u q2 f q3 o) M0 k) H := fl_ c91 (bPs_at tP (j := 2) (by omega) 1 rfl)
  have c93 : ∀ k, k < 93 → va_at E.2.1 vwCl (zAd q1 u q2 f q3 o k, zC E.2.2.1 (zAd q1 u q2 f q3 o) M0 k) H := fl_ c92 (bPs_at tP (j := 2) (by omega) 2 rfl)
  have c94 : ∀ k, k < 94 → va_at E.2.1 vwCl (zAd q1 u q2 f q3 o k, zC E.2.2.1 (zAd q1 u q2 f q3 o) M0 k) H := fl_ c93 (bPs_at tP (j := 2) (by omega) 3 rfl)
  have c95 : ∀ k, k < 95 → va_at E.2.1 vwCl (zAd q1 u q2 f q3 o k, zC E.2.2.1 (zAd q1 u q2 f q3 o) M0 k) H := fl_ c94 (bPs_at tP (j := 2) (by omega) 4 rfl)
  have c96 : ∀ k, k < 96 → va_at E.2.1 vwCl (zAd q1 u q2 f q3 o k, zC E.2.2.1 (zAd q1 u q2 f q3 o) M0 k) H := fl_ c95 (bPs_at tP (j := 3) (by omega) 0 rfl)
  have c97 : ∀ k, k < 97 → va_at E.2.1 vwCl (zAd q1 u q2 f q3 o k, zC E.2.2.1 (zAd q1 u q2 f q3 o) M0 k) H := fl_ c96 (bPs_at tP (j := 3) (by omega) 1 rfl)
  have c98 : ∀ k, k < 98 → va_at E.2.1 vwCl (zAd q1 u q2 f q3 o k, zC E.2.2.1 (zAd q1 u q2 f q3 o) M0 k) H := fl_ c97 (bPs_at tP (j := 3) (by omega) 2 rfl)
  have c99 : ∀ k, k < 99 → va_at E.2.1 vwCl (zAd q1 u q2 f q3 o k, zC E.2.2.1 (zAd q1 u q2 f q3 o) M0 k) H := fl_ c98 (bPs_at tP (j := 3) (by omega) 3 rfl)
  have c100 : ∀ k, k < 100 → va_at E.2.1 vwCl (zAd q1 u q2 f q3 o k, zC E.2.2.1 (zAd q1 u q2 f q3 o) M0 k) H := fl_ c99 (bPs_at tP (j := 3) (by omega) 4 rfl)
  have c101 : ∀ k, k < 101 → va_at E.2.1 vwCl (zAd q1 u q2 f q3 o k, zC E.2.2.1 (zAd q1 u q2 f q3 o) M0 k) H := fl_ c100 (bPs_at tP (j := 4) (by omega) 0 rfl)
  have c102 : ∀ k, k < 102 → va_at E.2.1 vwCl (zAd q1 u q2 f q3 o k, zC E.2.2.1 (zAd q1 u q2 f q3 o) M0 k) H := fl_ c101 (bPs_at tP (j := 4) (by omega) 1 rfl)
  have c103 : ∀ k, k < 103 → va_at E.2.1 vwCl (zAd q1 u q2 f q3 o k, zC E.2.2.1 (zAd q1 u q2 f q3 o) M0 k) H := fl_ c102 (bPs_at tP (j := 4) (by omega) 2 rfl)
  have c104 : ∀ k, k < 104 → va_at E.2.1 vwCl (zAd q1 u q2 f q3 o k, zC E.2.2.1 (zAd q1 u q2 f q3 o) M0 k) H := fl_ c103 (bPs_at tP (j := 4) (by omega) 3 rfl)
  have c105 : ∀ k, k < 105 → va_at E.2.1 vwCl (zAd q1 u q2 f q3 o k, zC E.2.2.1 (zAd q1 u q2 f q3 o) M0 k) H := fl_ c104 (bPs_at tP (j := 4) (by omega) 4 rfl)
  have c106 : ∀ k, k < 106 → va_at E.2.1 vwCl (zAd q1 u q2 f q3 o k, zC E.2.2.1 (zAd q1 u q2 f q3 o) M0 k) H := fl_ c105 (bPs_at tP (j := 5) (by omega) 0 rfl)
  have c107 : ∀ k, k < 107 → va_at E.2.1 vwCl (zAd q1 u q2 f q3 o k, zC E.2.2.1 (zAd q1 u q2 f q3 o) M0 k) H := fl_ c106 (bPs_at tP (j := 5) (by omega) 1 rfl)
  have c108 : ∀ k, k < 108 → va_at E.2.1 vwCl (zAd q1 u q2 f q3 o k, zC E.2.2.1 (zAd q1 u q2 f q3 o) M0 k) H := fl_ c107 (bPs_at tP (j := 5) (by omega) 2 rfl)
  have c109 : ∀ k, k < 109 → va_at E.2.1 vwCl (zAd q1 u q2 f q3 o k, zC E.2.2.1 (zAd q1 u q2 f q3 o) M0 k) H := fl_ c108 (bPs_at tP (j := 5) (by omega) 3 rfl)
  have c110 : ∀ k, k < 110 → va_at E.2.1 vwCl (zAd q1 u q2 f q3 o k, zC E.2.2.1 (zAd q1 u q2 f q3 o) M0 k) H := fl_ c109 (bPs_at tP (j := 5) (by omega) 4 rfl)
  have c111 : ∀ k, k < 111 → va_at E.2.1 vwCl (zAd q1 u q2 f q3 o k, zC E.2.2.1 (zAd q1 u q2 f q3 o) M0 k) H := fl_ c110 (bPs_at tP (j := 6) (by omega) 0 rfl)
  have c112 : ∀ k, k < 112 → va_at E.2.1 vwCl (zAd q1 u q2 f q3 o k, zC E.2.2.1 (zAd q1 u q2 f q3 o) M0 k) H := fl_ c111 (bPs_at tP (j := 6) (by omega) 1 rfl)
  have c113 : ∀ k, k < 113 → va_at E.2.1 vwCl (zAd q1 u q2 f q3 o k, zC E.2.2.1 (zAd q1 u q2 f q3 o) M0 k) H := fl_ c112 (bPs_at tP (j := 6) (by omega) 2 rfl)
  have c114 : ∀ k, k < 114 → va_at E.2.1 vwCl (zAd q1 u q2 f q3 o k, zC E.2.2.1 (zAd q1 u q2 f q3 o) M0 k) H := fl_ c113 (bPs_at tP (j := 6) (by omega) 3 rfl)
  have c115 : ∀ k, k < 115 → va_at E.2.1 vwCl (zAd q1 u q2 f q3 o k, zC E.2.2.1 (zAd q1 u q2 f q3 o) M0 k) H := fl_ c114 (bPs_at tP (j := 6) (by omega) 4 rfl)
  have c116 : ∀ k, k < 116 → va_at E.2.1 vwCl (zAd q1 u q2 f q3 o k, zC E.2.2.1 (zAd q1 u q2 f q3 o) M0 k) H := fl_ c115 (bPs_at tP (j := 7) (by omega) 0 rfl)
  have c117 : ∀ k, k < 117 → va_at E.2.1 vwCl (zAd q1 u q2 f q3 o k, zC E.2.2.1 (zAd q1 u q2 f q3 o) M0 k) H := fl_ c116 (bPs_at tP (j := 7) (by omega) 1 rfl)
  have c118 : ∀ k, k < 118 → va_at E.2.1 vwCl (zAd q1 u q2 f q3 o k, zC E.2.2.1 (zAd q1 u q2 f q3 o) M0 k) H := fl_ c117 (bPs_at tP (j := 7) (by omega) 2 rfl)
  have c119 : ∀ k, k < 119 → va_at E.2.1 vwCl (zAd q1 u q2 f q3 o k, zC E.2.2.1 (zAd q1 u q2 f q3 o) M0 k) H := fl_ c118 (bPs_at tP (j := 7) (by omega) 3 rfl)
  have c120 : ∀ k, k < 120 → va_at E.2.1 vwCl (zAd q1 u q2 f q3 o k, zC E.2.2.1 (zAd q1 u q2 f q3 o) M0 k) H := fl_ c119 (bPs_at tP (j := 7) (by omega) 4 rfl)
  have c121 : ∀ k, k < 121 → va_at E.2.1 vwCl (zAd q1 u q2 f q3 o k, zC E.2.2.1 (zAd q1 u q2 f q3 o) M0 k) H := fl_ c120 (bPs_at tP (j := 8) (by omega) 0 rfl)
  have c122 : ∀ k, k < 122 → va_at E.2.1 vwCl (zAd q1 u q2 f q3 o k, zC E.2.2.1 (zAd q1 u q2 f q3 o) M0 k) H := fl_ c121 (bPs_at tP (j := 8) (by omega) 1 rfl)
  have c123 : ∀ k, k < 123 → va_at E.2.1 vwCl (zAd q1 u q2 f q3 o k, zC E.2.2.1 (zAd q1 u q2 f q3 o) M0 k) H := fl_ c122 (bPs_at tP (j := 8) (by omega) 2 rfl)
  have c124 : ∀ k, k < 124 → va_at E.2.1 vwCl (zAd q1 u q2 f q3 o k, zC E.2.2.1 (zAd q1 u q2 f q3 o) M0 k) H := fl_ c123 (bPs_at tP (j := 8) (by omega) 3 rfl)
  have c125 : ∀ k, k < 125 → va_at E.2.1 vwCl (zAd q1 u q2 f q3 o k, zC E.2.2.1 (zAd q1 u q2 f q3 o) M0 k) H := fl_ c124 (bPs_at tP (j := 8) (by omega) 4 rfl)
  have c126 : ∀ k, k < 126 → va_at E.2.1 vwCl (zAd q1 u q2 f q3 o k, zC E.2.2.1 (zAd q1 u q2 f q3 o) M0 k) H := fl_ c125 (bPs_at tP (j := 9) (by omega) 0 rfl)
  have c127 : ∀ k, k < 127 → va_at E.2.1 vwCl (zAd q1 u q2 f q3 o k, zC E.2.2.1 (zAd q1 u q2 f q3 o) M0 k) H := fl_ c126 (bPs_at tP (j := 9) (by omega) 1 rfl)
  have c128 : ∀ k, k < 128 → va_at E.2.1 vwCl (zAd q1 u q2 f q3 o k, zC E.2.2.1 (zAd q1 u q2 f q3 o) M0 k) H := fl_ c127 (bPs_at tP (j := 9) (by omega) 2 rfl)
  have c129 : ∀ k, k < 129 → va_at E.2.1 vwCl (zAd q1 u q2 f q3 o k, zC E.2.2.1 (zAd q1 u q2 f q3 o) M0 k) H := fl_ c128 (bPs_at tP (j := 9) (by omega) 3 rfl)
  have c130 : ∀ k, k < 130 → va_at E.2.1 vwCl (zAd q1 u q2 f q3 o k, zC E.2.2.1 (zAd q1 u q2 f q3 o) M0 k) H := fl_ c129 (bPs_at tP (j := 9) (by omega) 4 rfl)
  have c131 : ∀ k, k < 131 → va_at E.2.1 vwCl (zAd q1 u q2 f q3 o k, zC E.2.2.1 (zAd q1 u q2 f q3 o) M0 k) H := fl_ c130 (bPs_at tP (j := 10) (by omega) 0 rfl)
  have c132 : ∀ k, k < 132 → va_at E.2.1 vwCl (zAd q1 u q2 f q3 o k, zC E.2.2.1 (zAd q1 u q2 f q3 o) M0 k) H := fl_ c131 (bPs_at tP (j := 10) (by omega) 1 rfl)
  have c133 : ∀ k, k < 133 → va_at E.2.1 vwCl (zAd q1 u q2 f q3 o k, zC E.2.2.1 (zAd q1 u q2 f q3 o) M0 k) H := fl_ c132 (bPs_at tP (j := 10) (by omega) 2 rfl)
  have c134 : ∀ k, k < 134 → va_at E.2.1 vwCl (zAd q1 u q2 f q3 o k, zC E.2.2.1 (zAd q1 u q2 f q3 o) M0 k) H := fl_ c133 (bPs_at tP (j := 10) (by omega) 3 rfl)
  have c135 : ∀ k, k < 135 → va_at E.2.1 vwCl (zAd q1 u q2 f q3 o k, zC E.2.2.1 (zAd q1 u q2 f q3 o) M0 k) H := fl_ c134 (bPs_at tP (j := 10) (by omega) 4 rfl)
  have c136 : ∀ k, k < 136 → va_at E.2.1 vwCl (zAd q1 u q2 f q3 o k, zC E.2.2.1 (zAd q1 u q2 f q3 o) M0 k) H := fl_ c135 (bPs_at tP (j := 11) (by omega) 0 rfl)
  have c137 : ∀ k, k < 137 → va_at E.2.1 vwCl (zAd q1 u q2 f q3 o k, zC E.2.2.1 (zAd q1 u q2 f q3 o) M0 k) H := fl_ c136 (bPs_at tP (j := 11) (by omega) 1 rfl)
  have c138 : ∀ k, k < 138 → va_at E.2.1 vwCl (zAd q1 u q2 f q3 o k, zC E.2.2.1 (zAd q1 u q2 f q3 o) M0 k) H := fl_ c137 (bPs_at tP (j := 11) (by omega) 2 rfl)
  have c139 : ∀ k, k < 139 → va_at E.2.1 vwCl (zAd q1 u q2 f q3 o k, zC E.2.2.1 (zAd q1 u q2 f q3 o) M0 k) H := fl_ c138 (bPs_at tP (j := 11) (by omega) 3 rfl)
  have c140 : ∀ k, k < 140 → va_at E.2.1 vwCl (zAd q1 u q2 f q3 o k, zC E.2.2.1 (zAd q1 u q2 f q3 o) M0 k) H := fl_ c139 (bPs_at tP (j := 11) (by omega) 4 rfl)
  have c141 : ∀ k, k < 141 → va_at E.2.1 vwCl (zAd q1 u q2 f q3 o k, zC E.2.2.1 (zAd q1 u q2 f q3 o) M0 k) H := fl_ c140 (bPs_at tP (j := 12) (by omega) 0 rfl)
  have c142 : ∀ k, k < 142 → va_at E.2.1 vwCl (zAd q1 u q2 f q3 o k, zC E.2.2.1 (zAd q1 u q2 f q3 o) M0 k) H := fl_ c141 (bPs_at tP (j := 12) (by omega) 1 rfl)
  have c143 : ∀ k, k < 143 → va_at E.2.1 vwCl (zAd q1 u q2 f q3 o k, zC E.2.2.1 (zAd q1 u q2 f q3 o) M0 k) H := fl_ c142 (bPs_at tP (j := 12) (by omega) 2 rfl)
  have c144 : ∀ k, k < 144 → va_at E.2.1 vwCl (zAd q1 u q2 f q3 o k, zC E.2.2.1 (zAd q1 u q2 f q3 o) M0 k) H := fl_ c143 (bPs_at tP (j := 12) (by omega) 3 rfl)
  have c145 : ∀ k, k < 145 → va_at E.2.1 vwCl (zAd q1 u q2 f q3 o k, zC E.2.2.1 (zAd q1 u q2 f q3 o) M0 k) H := fl_ c144 (bPs_at tP (j := 12) (by omega) 4 rfl)
  intro k x hk
  have hl : k < 145 := by
    have := (List.getElem?_eq_some_iff.mp hk).1
    simpa [zW] using this
  rw [zW_get _ _ _ hl] at hk
  cases hk
  exact c145 k hl
def zOrd : List Nat := (([] ++ (0 :: 11 :: ((((((((((((((((([] ++ [1, 2]) ++ [3, 4]) ++ [5, 6, 7, 8]) ++ [60, 61, 62, 63, 64]) ++ [65, 66, 67, 68, 69]) ++ (9 :: 10 :: ((((((((((((([] ++ [80, 81, 82, 83, 84]) ++ [85, 86, 87, 88, 89]) ++ [90, 91, 92, 93, 94]) ++ [95, 96, 97, 98, 99]) ++ [100, 101, 102, 103, 104]) ++ [105, 106, 107, 108, 109]) ++ [110, 111, 112, 113, 114]) ++ [115, 116, 117, 118, 119]) ++ [120, 121, 122, 123, 124]) ++ [125, 126, 127, 128, 129]) ++ [130, 131, 132, 133, 134]) ++ [135, 136, 137, 138, 139]) ++ [140, 141, 142, 143, 144]))) ++ [12]) ++ [13, 14, 15, 16]) ++ [17, 18, 19, 20]) ++ [21]) ++ [22, 23, 24, 25]) ++ [26, 27, 28, 29]) ++ [30, 31, 32, 33]) ++ [34]) ++ [35]) ++ [70, 71, 72, 73, 74]) ++ [75, 76, 77, 78, 79]))) ++ [36, 37, 38, 39, 40, 41, 42, 43, 44, 45, 46, 47, 48, 49, 50, 51, 52, 53, 54, 55, 56, 57, 58]) ++ [59]
def zPos : List Nat := [0, 2, 3, 4, 5, 6, 7, 8, 9, 20, 21, 1, 87, 88, 89, 90, 91, 92, 93, 94, 95, 96, 97, 98, 99, 100, 101, 102, 103, 104, 105, 106, 107, 108, 109, 110, 121, 122, 123, 124, 125, 126, 127, 128, 129, 130, 131, 132, 133, 134, 135, 136, 137, 138, 139, 140, 141, 142, 143, 144, 10, 11, 12, 13, 14, 15, 16, 17, 18, 19, 111, 112, 113, 114, 115, 116, 117, 118, 119, 120, 22, 23, 24, 25, 26, 27, 28, 29, 30, 31, 32, 33, 34, 35, 36, 37, 38, 39, 40, 41, 42, 43, 44, 45, 46, 47, 48, 49, 50, 51, 52, 53, 54, 55, 56, 57, 58, 59, 60, 61, 62, 63, 64, 65, 66, 67, 68, 69, 70, 71, 72, 73, 74, 75, 76, 77, 78, 79, 80, 81, 82, 83, 84, 85, 86]
theorem zPos_ok : ∀ k, k < 145 → zOrd[zPos.getD k 0]? = some k := by decide +kernel
set_option maxHeartbeats 4000000 in
set_option maxRecDepth 100000 in
theorem place_1 (E : kE) (q1 : Nat) (u : (Nat → Nat → Nat) × (Nat → Nat → Nat)) (q2 : Nat) (f : Nat → Nat) (q3 : Nat) (o : Nat → Nat) : (wL E q1 u q2 f q3).map (fun x => x.1) = zOrd.map (zAd q1 u q2 f q3 o) := by
  simp only [wL, bX11, bX2, bPs, zOrd, List.map_append, List.map_cons, List.map_nil]
  rfl
theorem place_D {E : kE} {q1 : Nat} {u : (Nat → Nat → Nat) × (Nat → Nat → Nat)} {q2 : Nat} {f : Nat → Nat} {q3 : Nat} {o : Nat → Nat} {A : Nat → Prop} (hD : va_D A (wL E q1 u q2 f q3)) (M : zM) : va_D A (zW E.2.2.1 (zAd q1 u q2 f q3 o) M) := by
  have key : ∀ k, k < 145 → ∃ e, (wL E q1 u q2 f q3)[zPos.getD k 0]? = some (zAd q1 u q2 f q3 o k, e) := by
    intro k hk
    have h1 : ((wL E q1 u q2 f q3).map (fun x => x.1))[zPos.getD k 0]? = some (zAd q1 u q2 f q3 o k) := by rw [place_1 E q1 u q2 f q3 o, List.getElem?_map, zPos_ok k hk]; rfl
    rw [List.getElem?_map] at h1
    cases h2 : (wL E q1 u q2 f q3)[zPos.getD k 0]? with
    | none => rw [h2] at h1; cases h1
    | some x =>
      rw [h2] at h1
      obtain ⟨x1, x2⟩ := x
      cases h1
      exact ⟨x2, rfl⟩
  have sm : ∀ k x, (zW E.2.2.1 (zAd q1 u q2 f q3 o) M)[k]? = some x → k < 145 ∧ x.1 = zAd q1 u q2 f q3 o k := by
    intro k x hk
    have hl : k < 145 := by
      have := (List.getElem?_eq_some_iff.mp hk).1
      simpa [zW] using this
    rw [zW_get _ _ _ hl] at hk
    cases hk
    exact ⟨hl, rfl⟩
  refine ⟨fun i j x y hi hj hxy => ?_, fun k x hk => ?_⟩
  · obtain ⟨i1, i2⟩ := sm i x hi
    obtain ⟨j1, j2⟩ := sm j y hj
    obtain ⟨e1, h1⟩ := key i i1
    obtain ⟨e2, h2⟩ := key j j1
    have hp := hD.1 _ _ _ _ h1 h2 (by show zAd q1 u q2 f q3 o i = zAd q1 u q2 f q3 o j; rw [← i2, ← j2]; exact hxy)
    have := zPos_ok i i1
    rw [hp, zPos_ok j j1] at this
    exact (Option.some.inj this).symm
  · obtain ⟨k1, k2⟩ := sm k x hk
    obtain ⟨e1, h1⟩ := key k k1
    rw [k2]
    exact hD.2 _ _ h1
theorem M0_first : First M0 := by
  refine ⟨⟨rfl, rfl, rfl, rfl⟩, ⟨fun c h1 h2 t ht => ?_, rfl, rfl, fun j hj => rfl⟩, ⟨rfl, rfl⟩, ⟨rfl, rfl⟩, ⟨rfl, rfl, rfl⟩, ⟨rfl, fun i hi => ⟨rfl, rfl, rfl⟩⟩, ⟨rfl, rfl, rfl, rfl, rfl, rfl⟩, ⟨rfl, rfl, rfl, rfl⟩, ⟨by decide, rfl, fun j x hj => ?_⟩, rfl⟩
  · have e : M0.1 (60 + c) = fI 8 := by
      rcases (show c = 1 ∨ c = 2 ∨ c = 3 ∨ c = 4 by omega) with rfl | rfl | rfl | rfl <;> rfl
    rw [e]
    unfold fI
    rw [if_pos ht]
  · have hl : j < 9 := (List.getElem?_eq_some_iff.mp hj).1
    show va_cpy (fun j => zPlain.getD j 0) (fun _ => 0) 0 0 9 j = x
    unfold va_cpy
    rw [if_pos ⟨by omega, by omega⟩]
    have : plainL = zPlain := rfl
    rw [this] at hj
    show zPlain.getD (0 + (j - 0)) 0 = x
    rw [List.getD_eq_getElem?_getD, show 0 + (j - 0) = j by omega, hj]
    rfl
