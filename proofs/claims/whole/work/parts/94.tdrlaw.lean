/-! thing, deed, row: where they throw; the wrappers; the law's three cases -/
def tThing (x y : Int32) (M : zM) : Prop := fX11_isThing x M = 0 ∨ (¬ y = 0 ∧ ¬ y = 1 ∧ ¬ y = 2 ∧ ¬ y = 3 ∧ ¬ y = 4 ∧ ¬ y = 5 ∧ ¬ y = 6)
def tDeed (x y : Int32) (M : zM) : Prop := fX11_isDeed x M = 0 ∨ (zin x 6 ∧ ¬ y = 0 ∧ ¬ y = 1 ∧ ¬ y = 2)
def tRow (x : Int32) (M : zM) : Prop := x < 0 ∨ ¬ x < M.1 3 1
theorem i32ne {y : Int32} {k : Int} {v : Int32} (hv : v.toInt = k) (h : ¬ y = v) : ¬ y.toInt = k := fun z => h (Int32.toInt_inj.mp (z.trans hv.symm))
theorem t_thing {E : zE} {d : Nat} (hd : 11 ≤ d) (htr : E.1.stackTraces = false) {x1 x2 : Int32} {M : zM} (h : tThing x1 x2 M) : CMT E d yX11_thing cX11_thing 3 (some .int) [.ref 0, .int x1, .int x2] M := by
  refine CMT.of (by decide) (Nat.le_of_ble_eq_true rfl) (fun Γ hC hz => ?_)
  have hC : Cx E Γ RX11 cX11_thing 3 d := hC
  show G E Γ 3 0 [(0, .ref 0), (1, .int x1), (2, .int x2)] [] M
  refine g_aload_n (i := 0) (x := 0) hC (dX11_thing_0) rfl rfl ?_
  refine g_iload_n (i := 1) (x := x1) hC (dX11_thing_1) rfl rfl ?_
  refine g_callVi ([.int x1]) hC wvX11_166 (dX11_thing_2) rfl rfl (d' := 10) (by omega) (Nat.le_of_ble_eq_true rfl) (cX11_isThing_ok (by omega) x1 M (K := fun r => r = fX11_isThing x1 M) rfl) (fun r N q => ?_)
  obtain ⟨rfl, rfl⟩ := q
  refine g_if_ne (tgt := 18) hC (dX11_thing_5) (by decide) (fun c5 => ?_) (fun c5 => ?_)
  · obtain ⟨y0, y1, y2, y3, y4, y5, y6⟩ := h.resolve_left c5
    refine g_iload_n (i := 2) (x := x2) hC (dX11_thing_18) rfl rfl ?_
    have z0 := i32ne (k := 0) (by decide +kernel) y0
    have z1 := i32ne (k := 1) (by decide +kernel) y1
    have z2 := i32ne (k := 2) (by decide +kernel) y2
    have z3 := i32ne (k := 3) (by decide +kernel) y3
    have z4 := i32ne (k := 4) (by decide +kernel) y4
    have z5 := i32ne (k := 5) (by decide +kernel) y5
    have z6 := i32ne (k := 6) (by decide +kernel) y6
    refine g_tswOut (tgt := 129) hC (dX11_thing_19) (by omega) (by decide +kernel) ?_
    exact g_throw hC hz (by omega) htr (i := 197) (tx := "no such question about a thing") (by decide) dX11_thing_129 dX11_thing_132 (Or.inl ⟨dX11_thing_133, rfl⟩) dX11_thing_135 dX11_thing_138
  · exact g_throw hC hz (by omega) htr (i := 171) (tx := "no such thing") (by decide) dX11_thing_8 dX11_thing_11 (Or.inl ⟨dX11_thing_12, rfl⟩) dX11_thing_14 dX11_thing_17
theorem t_deed {E : zE} {d : Nat} (hd : 12 ≤ d) (htr : E.1.stackTraces = false) {x1 x2 : Int32} {M : zM} (h : tDeed x1 x2 M) : CMT E d yX11_deed cX11_deed 4 (some .int) [.ref 0, .int x1, .int x2] M := by
  refine CMT.of (by decide) (Nat.le_of_ble_eq_true rfl) (fun Γ hC hz => ?_)
  have hC : Cx E Γ RX11 cX11_deed 4 d := hC
  show G E Γ 4 0 [(0, .ref 0), (1, .int x1), (2, .int x2)] [] M
  refine g_aload_n (i := 0) (x := 0) hC (dX11_deed_0) rfl rfl ?_
  refine g_iload_n (i := 1) (x := x1) hC (dX11_deed_1) rfl rfl ?_
  refine g_callVi ([.int x1]) hC wvX11_199 (dX11_deed_2) rfl rfl (d' := 10) (by omega) (Nat.le_of_ble_eq_true rfl) (cX11_isDeed_ok (by omega) x1 M (K := fun r => r = fX11_isDeed x1 M) rfl) (fun r N q => ?_)
  obtain ⟨rfl, rfl⟩ := q
  refine g_if_ne (tgt := 18) hC (dX11_deed_5) (by decide) (fun c5 => ?_) (fun c5 => ?_)
  · obtain ⟨q2, y0, y1, y2⟩ := h.resolve_left c5
    refine g_aload_n (i := 0) (x := 0) hC (dX11_deed_18) rfl rfl ?_
    refine g_getR (r := 5) hC flX11_26 (dX11_deed_19) rfl rfl rfl ?_
    refine g_getR (r := 8) hC flX11_148 (dX11_deed_22) rfl rfl rfl ?_
    refine g_iload_n (i := 1) (x := x1) hC (dX11_deed_25) rfl rfl ?_
    refine g_iaload (n := 6) hC (dX11_deed_26) rfl q2 ?_
    refine g_aload_n (i := 0) (x := 0) hC (dX11_deed_27) rfl rfl ?_
    refine g_getR (r := 60) hC flX11_33 (dX11_deed_28) rfl rfl rfl ?_
    refine g_bipush (v := 6) hC (dX11_deed_31) kb_6 ?_
    refine g_callVi ([.int 6]) hC wvX11_204 (dX11_deed_33) rfl rfl (d' := 10) (by omega) (Nat.le_of_ble_eq_true rfl) (cX10_heldBy_ok (by omega) 60 6 M (K := fun _ => True) ⟨_, pX10_heldBy rfl, trivial⟩) (fun r3 N q => ?_)
    obtain ⟨rfl, -⟩ := q
    refine g_iconst (v := (-1)) hC (dX11_deed_36) kc_m1 ?_
    refine g_ixor hC (dX11_deed_37) ?_
    refine g_iand hC (dX11_deed_38) ?_
    refine g_nmi (fun x3 e3 => ?_)
    refine g_istore_n (i := 3) (lv2 := [(3, .int x3), (0, .ref 0), (1, .int x1), (2, .int x2)]) hC (dX11_deed_39) rfl (by decide) rfl ?_
    refine g_iload_n (i := 2) (x := x2) hC (dX11_deed_40) rfl rfl ?_
    have z0 := i32ne (k := 0) (by decide +kernel) y0
    have z1 := i32ne (k := 1) (by decide +kernel) y1
    have z2 := i32ne (k := 2) (by decide +kernel) y2
    refine g_tswOut (tgt := 90) hC (dX11_deed_41) (by omega) (by decide +kernel) ?_
    exact g_throw hC hz (by omega) htr (i := 207) (tx := "no such question about a deed") (by decide) dX11_deed_90 dX11_deed_93 (Or.inl ⟨dX11_deed_94, rfl⟩) dX11_deed_96 dX11_deed_99
  · exact g_throw hC hz (by omega) htr (i := 202) (tx := "no such deed") (by decide) dX11_deed_8 dX11_deed_11 (Or.inl ⟨dX11_deed_12, rfl⟩) dX11_deed_14 dX11_deed_17
theorem t_row {E : zE} {d : Nat} (hd : 10 ≤ d) (htr : E.1.stackTraces = false) {x1 : Int32} {M : zM} (h : tRow x1 M) : CMT E d yX11_row cX11_row 2 (some .long) [.ref 0, .int x1] M := by
  refine CMT.of (by decide) (Nat.le_of_ble_eq_true rfl) (fun Γ hC hz => ?_)
  have hC : Cx E Γ RX11 cX11_row 2 d := hC
  show G E Γ 2 0 [(0, .ref 0), (1, .int x1)] [] M
  refine g_iload_n (i := 1) (x := x1) hC (dX11_row_0) rfl rfl ?_
  have fin : ∀ lv, G E Γ 2 15 lv [] M := fun lv => g_throw hC hz hd htr (i := 404) (tx := "no such number in the row") (by decide) dX11_row_15 dX11_row_18 (Or.inr ⟨dX11_row_19, rfl⟩) dX11_row_22 dX11_row_25
  refine g_if_lt (tgt := 15) hC (dX11_row_1) (by decide) (fun c1 => fin _) (fun c1 => ?_)
  refine g_iload_n (i := 1) (x := x1) hC (dX11_row_4) rfl rfl ?_
  refine g_aload_n (i := 0) (x := 0) hC (dX11_row_5) rfl rfl ?_
  refine g_getR (r := 3) hC flX11_19 (dX11_row_6) rfl rfl rfl ?_
  refine g_getI hC flX11_400 (dX11_row_9) rfl rfl ?_
  refine g_icmp_lt (tgt := 26) hC (dX11_row_12) (by decide) (fun c12 => absurd c12 (h.resolve_left c1)) (fun c12 => fin _)
theorem eqThing {M : zM} {n nd : Nat} (hS : RS M n nd) (x y : Int32) : fX11_thing x y M = aThing x y M := by
  obtain ⟨⟨h8, h6⟩, ⟨s1, s2, s3, s4⟩, hm, hw, hd⟩ := hS
  unfold fX11_thing aThing
  rcases split_ix x (n := n) (by omega) with hx | ⟨t, ht, rfl⟩
  · rw [if_pos (isThingC0 s1 (by omega) hx), if_pos (isThingC0 s1 (by omega) hx), ite_self]
  · have c1 : ¬ fX11_isThing (nI t) M = 0 := by rw [isThingC1 s1 (by omega) ht]; decide
    have hz : zin (nI t) 8 := zinT (by omega) (by omega)
    rw [if_neg c1, if_neg c1]
    simp only [if_pos hz, ite_self, Option.bind_fun_some]
theorem noThing {M : zM} {n nd : Nat} (hS : RS M n nd) {x y : Int32} (h : aThing x y M = none) : tThing x y M := by
  obtain ⟨⟨h8, h6⟩, ⟨s1, s2, s3, s4⟩, hm, hw, hd⟩ := hS
  unfold aThing at h
  by_cases c : fX11_isThing x M = 0
  · exact Or.inl c
  refine Or.inr ?_
  rw [if_neg c] at h
  by_cases y0 : y = 0
  · rw [if_pos y0] at h; cases h
  rw [if_neg y0] at h
  by_cases y1 : y = 1
  · rw [if_pos y1] at h; cases h
  rw [if_neg y1] at h
  by_cases y2 : y = 2
  · rw [if_pos y2] at h; cases h
  rw [if_neg y2] at h
  by_cases y3 : y = 3
  · rw [if_pos y3] at h; cases h
  rw [if_neg y3] at h
  by_cases y4 : y = 4
  · rw [if_pos y4] at h; cases h
  rw [if_neg y4] at h
  by_cases y5 : y = 5
  · rw [if_pos y5] at h; cases h
  rw [if_neg y5] at h
  by_cases y6 : y = 6
  · rw [if_pos y6, pX7_deedsThatNeed s3 h6] at h; cases h
  exact ⟨y0, y1, y2, y3, y4, y5, y6⟩
theorem eqDeed {M : zM} {n nd : Nat} (hS : RS M n nd) (x y : Int32) : fX11_deed x y M = aDeed x y M ∧ (fX11_isDeed x M = 0 ∨ zin x 6) := by
  obtain ⟨⟨h8, h6⟩, ⟨s1, s2, s3, s4⟩, hm, hw, hd⟩ := hS
  unfold fX11_deed aDeed
  rcases split_ix x (n := nd) (by omega) with hx | ⟨t, ht, rfl⟩
  · have c0 : fX11_isDeed x M = 0 := by
      unfold fX11_isDeed
      rw [s3]
      by_cases z : x < 0
      · rw [if_pos z]
      · rw [if_neg z, if_pos (hx.resolve_left z)]
    rw [if_pos c0, if_pos c0, ite_self]
    exact ⟨rfl, Or.inl c0⟩
  · have c1 : ¬ fX11_isDeed (nI t) M = 0 := by
      unfold fX11_isDeed
      rw [s3, if_neg (nI_nneg (by omega)), if_neg (leF ht (by omega))]; decide
    have hz : zin (nI t) 6 := zinT (by omega) (by omega)
    rw [if_neg c1, if_neg c1, if_pos hz, pX10_heldBy (w := 60) rfl, Option.bind_some]
    simp only [zlet, ite_self]
    exact ⟨trivial, Or.inr hz⟩
theorem noDeed {M : zM} {n nd : Nat} (hS : RS M n nd) {x y : Int32} (h : aDeed x y M = none) : tDeed x y M := by
  have hz := (eqDeed hS x y).2
  unfold aDeed at h
  by_cases c : fX11_isDeed x M = 0
  · exact Or.inl c
  refine Or.inr ?_
  rw [if_neg c] at h
  by_cases y0 : y = 0
  · rw [if_pos y0] at h; cases h
  rw [if_neg y0] at h
  by_cases y1 : y = 1
  · rw [if_pos y1] at h; cases h
  rw [if_neg y1] at h
  by_cases y2 : y = 2
  · rw [if_pos y2] at h
    split at h <;> cases h
  exact ⟨hz.resolve_left c, y0, y1, y2⟩
theorem eqRow {M : zM} (hO : RO M) (x : Int32) : fX11_row x M = aRow x M := by
  obtain ⟨l, hl, ⟨c1, c2⟩, r1, r2⟩ := hO
  unfold fX11_row aRow
  simp only [zj, ite_self]
  rcases split_ix x (n := l.length) (by omega) with hx | ⟨t, ht, rfl⟩
  · by_cases z : x < 0
    · rw [if_pos z, if_pos z]
    · rw [if_neg z, if_neg z, c1, if_neg ((ilt_nle _ _).mpr (hx.resolve_left z)), if_neg ((ilt_nle _ _).mpr (hx.resolve_left z))]
  · have hz : zin (nI t) 16 := zinT (by omega) (by omega)
    simp only [if_pos hz]
theorem noRow {M : zM} {x : Int32} (h : aRow x M = none) : tRow x M := by
  unfold aRow at h
  by_cases c : x < 0
  · exact Or.inl c
  rw [if_neg c] at h
  by_cases c2 : x < M.1 3 1
  · rw [if_pos c2] at h; cases h
  exact Or.inr c2
/-! the wrappers -/
def yLw_thing : MethodName := ⟨RLw, "thing", "(LLostByState;II[J)I"⟩
def yLw_deed : MethodName := ⟨RLw, "deed", "(LLostByState;II[J)I"⟩
def yLw_row : MethodName := ⟨RLw, "row", "(LLostByState;I[J)I"⟩
theorem dw3_0 : decode method_3_code 0 = .ok (.aload_n 3, 1) := by decide +kernel
theorem dw3_1 : decode method_3_code 1 = .ok (.iconst 0, 1) := by decide +kernel
theorem dw3_2 : decode method_3_code 2 = .ok (.aload_n 0, 1) := by decide +kernel
theorem dw3_3 : decode method_3_code 3 = .ok (.iload_n 1, 1) := by decide +kernel
theorem dw3_4 : decode method_3_code 4 = .ok (.iload_n 2, 1) := by decide +kernel
theorem dw3_5 : decode method_3_code 5 = .ok (.invokevirtual 7, 3) := by decide +kernel
theorem dw3_8 : decode method_3_code 8 = .ok (.i2l, 1) := by decide +kernel
theorem dw3_9 : decode method_3_code 9 = .ok (.lastore, 1) := by decide +kernel
theorem dw3_10 : decode method_3_code 10 = .ok (.goto 7, 3) := by decide +kernel
theorem dw3_13 : decode method_3_code 13 = .ok (.astore 4, 2) := by decide +kernel
theorem dw3_15 : decode method_3_code 15 = .ok (.iconst 1, 1) := by decide +kernel
theorem dw3_16 : decode method_3_code 16 = .ok (.ireturn, 1) := by decide +kernel
theorem dw3_17 : decode method_3_code 17 = .ok (.iconst 0, 1) := by decide +kernel
theorem dw3_18 : decode method_3_code 18 = .ok (.ireturn, 1) := by decide +kernel
theorem dw4_0 : decode method_4_code 0 = .ok (.aload_n 3, 1) := by decide +kernel
theorem dw4_1 : decode method_4_code 1 = .ok (.iconst 0, 1) := by decide +kernel
theorem dw4_2 : decode method_4_code 2 = .ok (.aload_n 0, 1) := by decide +kernel
theorem dw4_3 : decode method_4_code 3 = .ok (.iload_n 1, 1) := by decide +kernel
theorem dw4_4 : decode method_4_code 4 = .ok (.iload_n 2, 1) := by decide +kernel
theorem dw4_5 : decode method_4_code 5 = .ok (.invokevirtual 15, 3) := by decide +kernel
theorem dw4_8 : decode method_4_code 8 = .ok (.i2l, 1) := by decide +kernel
theorem dw4_9 : decode method_4_code 9 = .ok (.lastore, 1) := by decide +kernel
theorem dw4_10 : decode method_4_code 10 = .ok (.goto 7, 3) := by decide +kernel
theorem dw4_13 : decode method_4_code 13 = .ok (.astore 4, 2) := by decide +kernel
theorem dw4_15 : decode method_4_code 15 = .ok (.iconst 1, 1) := by decide +kernel
theorem dw4_16 : decode method_4_code 16 = .ok (.ireturn, 1) := by decide +kernel
theorem dw4_17 : decode method_4_code 17 = .ok (.iconst 0, 1) := by decide +kernel
theorem dw4_18 : decode method_4_code 18 = .ok (.ireturn, 1) := by decide +kernel
theorem dw5_0 : decode method_5_code 0 = .ok (.aload_n 2, 1) := by decide +kernel
theorem dw5_1 : decode method_5_code 1 = .ok (.iconst 0, 1) := by decide +kernel
theorem dw5_2 : decode method_5_code 2 = .ok (.aload_n 0, 1) := by decide +kernel
theorem dw5_3 : decode method_5_code 3 = .ok (.iload_n 1, 1) := by decide +kernel
theorem dw5_4 : decode method_5_code 4 = .ok (.invokevirtual 18, 3) := by decide +kernel
theorem dw5_7 : decode method_5_code 7 = .ok (.lastore, 1) := by decide +kernel
theorem dw5_8 : decode method_5_code 8 = .ok (.goto 6, 3) := by decide +kernel
theorem dw5_11 : decode method_5_code 11 = .ok (.astore_n 3, 1) := by decide +kernel
theorem dw5_12 : decode method_5_code 12 = .ok (.iconst 1, 1) := by decide +kernel
theorem dw5_13 : decode method_5_code 13 = .ok (.ireturn, 1) := by decide +kernel
theorem dw5_14 : decode method_5_code 14 = .ok (.iconst 0, 1) := by decide +kernel
theorem dw5_15 : decode method_5_code 15 = .ok (.ireturn, 1) := by decide +kernel
theorem wc_thing : Cond.codeWith yLw_thing method_3_code 5 (some .int) [(0, 10, 13, 13)] ∈ zTb := zTb_t 1007 (by decide +kernel) (by decide +kernel)
theorem wl_thing : Cond.methodLink RLw 49 yLw_thing ∈ zTb := zTb_t 1005 (by decide +kernel) (by decide +kernel)
theorem ws_thing : Cond.static yLw_thing ∈ zTb := zTb_t 1006 (by decide +kernel) (by decide +kernel)
theorem wc_deed : Cond.codeWith yLw_deed method_4_code 5 (some .int) [(0, 10, 13, 13)] ∈ zTb := zTb_t 1081 (by decide +kernel) (by decide +kernel)
theorem wl_deed : Cond.methodLink RLw 58 yLw_deed ∈ zTb := zTb_t 1079 (by decide +kernel) (by decide +kernel)
theorem ws_deed : Cond.static yLw_deed ∈ zTb := zTb_t 1080 (by decide +kernel) (by decide +kernel)
theorem wc_row : Cond.codeWith yLw_row method_5_code 4 (some .int) [(0, 8, 11, 13)] ∈ zTb := zTb_t 1090 (by decide +kernel) (by decide +kernel)
theorem wl_row : Cond.methodLink RLw 227 yLw_row ∈ zTb := zTb_t 1088 (by decide +kernel) (by decide +kernel)
theorem ws_row : Cond.static yLw_row ∈ zTb := zTb_t 1089 (by decide +kernel) (by decide +kernel)
theorem wi_law : Cond.initialized RLw ∈ zTb := zTb_t 0 (by decide +kernel) (by decide +kernel)
theorem mv1_thing : Cond.code yX11_thing cX11_thing 3 (some .int) ∈ zTb := zTb_t 1012 (by decide +kernel) (by decide +kernel)
theorem mv2_thing : Cond.methodLink RLw 7 yX11_thing ∈ zTb := zTb_t 1009 (by decide +kernel) (by decide +kernel)
theorem mv3_thing : Cond.instanceMethod yX11_thing ∈ zTb := zTb_t 1010 (by decide +kernel) (by decide +kernel)
theorem mv4_thing : Cond.selects RX11 yX11_thing yX11_thing ∈ zTb := zTb_t 1011 (by decide +kernel) (by decide +kernel)
theorem wv_thing : zWV RLw 7 11 yX11_thing cX11_thing 3 (some .int) 2 := ⟨⟨⟨mv1_thing, m_1, by decide, by decide, by decide +kernel⟩, by decide⟩, mv2_thing, mv3_thing, RX11, TX11, 19, rfl, mv4_thing⟩
theorem mv1_deed : Cond.code yX11_deed cX11_deed 4 (some .int) ∈ zTb := zTb_t 1085 (by decide +kernel) (by decide +kernel)
theorem mv2_deed : Cond.methodLink RLw 15 yX11_deed ∈ zTb := zTb_t 1082 (by decide +kernel) (by decide +kernel)
theorem mv3_deed : Cond.instanceMethod yX11_deed ∈ zTb := zTb_t 1083 (by decide +kernel) (by decide +kernel)
theorem mv4_deed : Cond.selects RX11 yX11_deed yX11_deed ∈ zTb := zTb_t 1084 (by decide +kernel) (by decide +kernel)
theorem wv_deed : zWV RLw 15 11 yX11_deed cX11_deed 4 (some .int) 2 := ⟨⟨⟨mv1_deed, m_1, by decide, by decide, by decide +kernel⟩, by decide⟩, mv2_deed, mv3_deed, RX11, TX11, 19, rfl, mv4_deed⟩
theorem mv1_row : Cond.code yX11_row cX11_row 2 (some .long) ∈ zTb := zTb_t 1094 (by decide +kernel) (by decide +kernel)
theorem mv2_row : Cond.methodLink RLw 18 yX11_row ∈ zTb := zTb_t 1091 (by decide +kernel) (by decide +kernel)
theorem mv3_row : Cond.instanceMethod yX11_row ∈ zTb := zTb_t 1092 (by decide +kernel) (by decide +kernel)
theorem mv4_row : Cond.selects RX11 yX11_row yX11_row ∈ zTb := zTb_t 1093 (by decide +kernel) (by decide +kernel)
theorem wv_row : zWV RLw 18 11 yX11_row cX11_row 2 (some .long) 1 := ⟨⟨⟨mv1_row, m_1, by decide, by decide, by decide +kernel⟩, by decide⟩, mv2_row, mv3_row, RX11, TX11, 19, rfl, mv4_row⟩
theorem wr_thing {E : zE} {d : Nat} {M : zM} {x y : Int32} (hd : 14 ≤ d) (htr : E.1.stackTraces = false) (h : tThing x y M ∨ ∃ v, fX11_thing x y M = some v) : CMw E d yLw_thing method_3_code 5 (0, 10, 13, 13) [.ref 0, .int x, .int y, .ref 59] M (fun r N => (tThing x y M ∧ r = 1 ∧ N = M) ∨ ∃ v, fX11_thing x y M = some v ∧ r = 0 ∧ N = zSJ M 59 0 v.toInt64) := by
  refine CMw.of (by decide) (Nat.le_of_ble_eq_true rfl) ?_
  intro p e s m args below meth c A hC hr hTx htab
  have hC : ∀ ce sl, ce ≤ 1 → sl ≤ 6 → Cx E (gW E d (fun r N => (tThing x y M ∧ r = 1 ∧ N = M) ∨ ∃ v, fX11_thing x y M = some v ∧ r = 0 ∧ N = zSJ M 59 0 v.toInt64) p e s m args below meth c A ce sl) RLw method_3_code 5 d := hC
  have h0 := hC 0 0 (by omega) (by omega)
  have h6 := hC 1 6 (by omega) (by omega)
  show G E _ 5 0 [(0, .ref 0), (1, .int x), (2, .int y), (3, .ref 59)] [] M
  refine g_aload_n (i := 3) (x := 59) h0 (dw3_0) rfl rfl ?_
  refine g_iconst (v := 0) h0 (dw3_1) (by decide) ?_
  refine g_aload_n (i := 0) (x := 0) h0 (dw3_2) rfl rfl ?_
  refine g_iload_n (i := 1) (x := x) h0 (dw3_3) rfl rfl ?_
  refine g_iload_n (i := 2) (x := y) h0 (dw3_4) rfl rfl ?_
  rcases h with h | ⟨v, h⟩
  · obtain ⟨xt, htab, hx4⟩ := htab
    obtain ⟨x1, x2, x3, x4⟩ : xt.startPc = 0 ∧ xt.endPc = 10 ∧ xt.handlerPc = 13 ∧ xt.catchType = 13 := by simpa only [Prod.mk.injEq] using hx4
    refine g_callVT (i := 4) (pc2 := 15) (d' := 13) ([.int x, .int y]) hC hTx wv_thing (dw3_5) rfl rfl (by omega) (Nat.le_of_ble_eq_true rfl) (t_thing (by omega) htr h) htab (by simp only [covers, x1, x2]; decide) x4 (by decide) (Or.inl ⟨by rw [x3]; exact dw3_13, by rw [x3]⟩) ?_
    refine g_iconst (v := 1) h6 (dw3_15) (by decide) ?_
    exact g_iretW h6 hr (by omega) (by omega) dw3_16 (Or.inl ⟨h, rfl, rfl⟩)
  · refine g_callVi ([.int x, .int y]) h0 wv_thing (dw3_5) rfl rfl (d' := 13) (by omega) (Nat.le_of_ble_eq_true rfl) (cX11_thing_ok (by omega) x y M (K := fun r => r = v) ⟨v, h, rfl⟩) (fun r N q => ?_)
    obtain ⟨rfl, rfl⟩ := q
    refine g_i2l h0 (dw3_8) ?_
    refine g_lastore (n := 1) h0 (dw3_9) rfl (by decide) ?_
    refine g_goto (tgt := 17) h0 (dw3_10) (by decide) ?_
    refine g_iconst (v := 0) h0 (dw3_17) (by decide) ?_
    exact g_iretW h0 hr (by omega) (by omega) dw3_18 (Or.inr ⟨_, h, rfl, rfl⟩)
theorem wr_deed {E : zE} {d : Nat} {M : zM} {x y : Int32} (hd : 14 ≤ d) (htr : E.1.stackTraces = false) (h : tDeed x y M ∨ ∃ v, fX11_deed x y M = some v) : CMw E d yLw_deed method_4_code 5 (0, 10, 13, 13) [.ref 0, .int x, .int y, .ref 59] M (fun r N => (tDeed x y M ∧ r = 1 ∧ N = M) ∨ ∃ v, fX11_deed x y M = some v ∧ r = 0 ∧ N = zSJ M 59 0 v.toInt64) := by
  refine CMw.of (by decide) (Nat.le_of_ble_eq_true rfl) ?_
  intro p e s m args below meth c A hC hr hTx htab
  have hC : ∀ ce sl, ce ≤ 1 → sl ≤ 6 → Cx E (gW E d (fun r N => (tDeed x y M ∧ r = 1 ∧ N = M) ∨ ∃ v, fX11_deed x y M = some v ∧ r = 0 ∧ N = zSJ M 59 0 v.toInt64) p e s m args below meth c A ce sl) RLw method_4_code 5 d := hC
  have h0 := hC 0 0 (by omega) (by omega)
  have h6 := hC 1 6 (by omega) (by omega)
  show G E _ 5 0 [(0, .ref 0), (1, .int x), (2, .int y), (3, .ref 59)] [] M
  refine g_aload_n (i := 3) (x := 59) h0 (dw4_0) rfl rfl ?_
  refine g_iconst (v := 0) h0 (dw4_1) (by decide) ?_
  refine g_aload_n (i := 0) (x := 0) h0 (dw4_2) rfl rfl ?_
  refine g_iload_n (i := 1) (x := x) h0 (dw4_3) rfl rfl ?_
  refine g_iload_n (i := 2) (x := y) h0 (dw4_4) rfl rfl ?_
  rcases h with h | ⟨v, h⟩
  · obtain ⟨xt, htab, hx4⟩ := htab
    obtain ⟨x1, x2, x3, x4⟩ : xt.startPc = 0 ∧ xt.endPc = 10 ∧ xt.handlerPc = 13 ∧ xt.catchType = 13 := by simpa only [Prod.mk.injEq] using hx4
    refine g_callVT (i := 4) (pc2 := 15) (d' := 13) ([.int x, .int y]) hC hTx wv_deed (dw4_5) rfl rfl (by omega) (Nat.le_of_ble_eq_true rfl) (t_deed (by omega) htr h) htab (by simp only [covers, x1, x2]; decide) x4 (by decide) (Or.inl ⟨by rw [x3]; exact dw4_13, by rw [x3]⟩) ?_
    refine g_iconst (v := 1) h6 (dw4_15) (by decide) ?_
    exact g_iretW h6 hr (by omega) (by omega) dw4_16 (Or.inl ⟨h, rfl, rfl⟩)
  · refine g_callVi ([.int x, .int y]) h0 wv_deed (dw4_5) rfl rfl (d' := 13) (by omega) (Nat.le_of_ble_eq_true rfl) (cX11_deed_ok (by omega) x y M (K := fun r => r = v) ⟨v, h, rfl⟩) (fun r N q => ?_)
    obtain ⟨rfl, rfl⟩ := q
    refine g_i2l h0 (dw4_8) ?_
    refine g_lastore (n := 1) h0 (dw4_9) rfl (by decide) ?_
    refine g_goto (tgt := 17) h0 (dw4_10) (by decide) ?_
    refine g_iconst (v := 0) h0 (dw4_17) (by decide) ?_
    exact g_iretW h0 hr (by omega) (by omega) dw4_18 (Or.inr ⟨_, h, rfl, rfl⟩)
theorem wr_row {E : zE} {d : Nat} {M : zM} {x : Int32} (hd : 14 ≤ d) (htr : E.1.stackTraces = false) (h : tRow x M ∨ ∃ v, fX11_row x M = some v) : CMw E d yLw_row method_5_code 4 (0, 8, 11, 13) [.ref 0, .int x, .ref 59] M (fun r N => (tRow x M ∧ r = 1 ∧ N = M) ∨ ∃ v, fX11_row x M = some v ∧ r = 0 ∧ N = zSJ M 59 0 v) := by
  refine CMw.of (by decide) (Nat.le_of_ble_eq_true rfl) ?_
  intro p e s m args below meth c A hC hr hTx htab
  have hC : ∀ ce sl, ce ≤ 1 → sl ≤ 6 → Cx E (gW E d (fun r N => (tRow x M ∧ r = 1 ∧ N = M) ∨ ∃ v, fX11_row x M = some v ∧ r = 0 ∧ N = zSJ M 59 0 v) p e s m args below meth c A ce sl) RLw method_5_code 4 d := hC
  have h0 := hC 0 0 (by omega) (by omega)
  have h6 := hC 1 6 (by omega) (by omega)
  show G E _ 4 0 [(0, .ref 0), (1, .int x), (2, .ref 59)] [] M
  refine g_aload_n (i := 2) (x := 59) h0 (dw5_0) rfl rfl ?_
  refine g_iconst (v := 0) h0 (dw5_1) (by decide) ?_
  refine g_aload_n (i := 0) (x := 0) h0 (dw5_2) rfl rfl ?_
  refine g_iload_n (i := 1) (x := x) h0 (dw5_3) rfl rfl ?_
  rcases h with h | ⟨v, h⟩
  · obtain ⟨xt, htab, hx4⟩ := htab
    obtain ⟨x1, x2, x3, x4⟩ : xt.startPc = 0 ∧ xt.endPc = 8 ∧ xt.handlerPc = 11 ∧ xt.catchType = 13 := by simpa only [Prod.mk.injEq] using hx4
    refine g_callVT (i := 3) (pc2 := 12) (d' := 13) ([.int x]) hC hTx wv_row (dw5_4) rfl rfl (by omega) (Nat.le_of_ble_eq_true rfl) (t_row (by omega) htr h) htab (by simp only [covers, x1, x2]; decide) x4 (by decide) (Or.inr ⟨3, by rw [x3]; exact dw5_11, rfl, by rw [x3]⟩) ?_
    refine g_iconst (v := 1) h6 (dw5_12) (by decide) ?_
    exact g_iretW h6 hr (by omega) (by omega) dw5_13 (Or.inl ⟨h, rfl, rfl⟩)
  · refine g_callVl ([.int x]) h0 wv_row (dw5_4) rfl rfl (d' := 13) (by omega) (Nat.le_of_ble_eq_true rfl) (cX11_row_ok (by omega) x M (K := fun r => r = v) ⟨v, h, rfl⟩) (fun r N q => ?_)
    obtain ⟨rfl, rfl⟩ := q
    refine g_lastore (n := 1) h0 (dw5_7) rfl (by decide) ?_
    refine g_goto (tgt := 14) h0 (dw5_8) (by decide) ?_
    refine g_iconst (v := 0) h0 (dw5_14) (by decide) ?_
    exact g_iretW h0 hr (by omega) (by omega) dw5_15 (Or.inr ⟨_, h, rfl, rfl⟩)
theorem dF_337 : decode code 337 = .ok (.aload_n 1, 1) := by decide +kernel
theorem dF_338 : decode code 338 = .ok (.aload_n 0, 1) := by decide +kernel
theorem dF_339 : decode code 339 = .ok (.iload 4, 2) := by decide +kernel
theorem dF_341 : decode code 341 = .ok (.iconst 1, 1) := by decide +kernel
theorem dF_342 : decode code 342 = .ok (.iadd, 1) := by decide +kernel
theorem dF_343 : decode code 343 = .ok (.iaload, 1) := by decide +kernel
theorem dF_344 : decode code 344 = .ok (.aload_n 0, 1) := by decide +kernel
theorem dF_345 : decode code 345 = .ok (.iload 4, 2) := by decide +kernel
theorem dF_347 : decode code 347 = .ok (.iconst 2, 1) := by decide +kernel
theorem dF_348 : decode code 348 = .ok (.iadd, 1) := by decide +kernel
theorem dF_349 : decode code 349 = .ok (.iaload, 1) := by decide +kernel
theorem dF_350 : decode code 350 = .ok (.aload_n 3, 1) := by decide +kernel
theorem dF_351 : decode code 351 = .ok (.invokestatic 49, 3) := by decide +kernel
theorem dF_405 : decode code 405 = .ok (.aload_n 1, 1) := by decide +kernel
theorem dF_406 : decode code 406 = .ok (.aload_n 0, 1) := by decide +kernel
theorem dF_407 : decode code 407 = .ok (.iload 4, 2) := by decide +kernel
theorem dF_409 : decode code 409 = .ok (.iconst 1, 1) := by decide +kernel
theorem dF_410 : decode code 410 = .ok (.iadd, 1) := by decide +kernel
theorem dF_411 : decode code 411 = .ok (.iaload, 1) := by decide +kernel
theorem dF_412 : decode code 412 = .ok (.aload_n 0, 1) := by decide +kernel
theorem dF_413 : decode code 413 = .ok (.iload 4, 2) := by decide +kernel
theorem dF_415 : decode code 415 = .ok (.iconst 2, 1) := by decide +kernel
theorem dF_416 : decode code 416 = .ok (.iadd, 1) := by decide +kernel
theorem dF_417 : decode code 417 = .ok (.iaload, 1) := by decide +kernel
theorem dF_418 : decode code 418 = .ok (.aload_n 3, 1) := by decide +kernel
theorem dF_419 : decode code 419 = .ok (.invokestatic 58, 3) := by decide +kernel
theorem dF_1510 : decode code 1510 = .ok (.aload_n 1, 1) := by decide +kernel
theorem dF_1511 : decode code 1511 = .ok (.aload_n 0, 1) := by decide +kernel
theorem dF_1512 : decode code 1512 = .ok (.iload 4, 2) := by decide +kernel
theorem dF_1514 : decode code 1514 = .ok (.iconst 1, 1) := by decide +kernel
theorem dF_1515 : decode code 1515 = .ok (.iadd, 1) := by decide +kernel
theorem dF_1516 : decode code 1516 = .ok (.iaload, 1) := by decide +kernel
theorem dF_1517 : decode code 1517 = .ok (.aload_n 3, 1) := by decide +kernel
theorem dF_1518 : decode code 1518 = .ok (.invokestatic 227, 3) := by decide +kernel
theorem thr_thing {x y : Int32} {M : zM} (h : tThing x y M) (v : Int32) : ¬ fX11_thing x y M = some v := by
  unfold fX11_thing
  rcases h with c | ⟨y0, y1, y2, y3, y4, y5, y6⟩
  · rw [if_pos c, ite_self]; exact fun z => by cases z
  · rw [if_neg y0, if_neg y1, if_neg y2, if_neg y3, if_neg y4, if_neg y5, if_neg y6]
    simp only [ite_self]; exact fun z => by cases z
theorem thr_deed {x y : Int32} {M : zM} (h : tDeed x y M) (v : Int32) : ¬ fX11_deed x y M = some v := by
  unfold fX11_deed
  rcases h with c | ⟨hz, y0, y1, y2⟩
  · rw [if_pos c, ite_self]; exact fun z => by cases z
  · rw [if_pos hz, pX10_heldBy (w := 60) rfl, Option.bind_some]
    simp only [zlet, if_neg y0, if_neg y1, if_neg y2, ite_self]; exact fun z => by cases z
theorem thr_row {x : Int32} {M : zM} (h : tRow x M) (v : Int64) : ¬ fX11_row x M = some v := by
  unfold fX11_row
  simp only [zj, ite_self]
  rcases h with c | c
  · rw [if_pos c]; exact fun z => by cases z
  · rw [if_neg c, ite_self]; exact fun z => by cases z
theorem law_thing {E : zE} {p : Program} {e : Env} {s : State} {m : MethodId} {b : Nat} {below : List Frame} {meth : Method} {c : Code} {d ce sl L i N : Nat} {xs : Nat → Int32} {M : zM} (hc : Cx E (gL p e s m b below meth c ce sl) RLw code 8 d) (hc1 : Cx E (gL p e s m b below meth c (ce + 1) (sl + 6)) RLw code 8 d) (hd : 135 ≤ d) (hs : Scr E (gL p e s m b below meth c ce sl) L xs) (hs1 : Scr E (gL p e s m b below meth c (ce + 1) (sl + 6)) L xs) (hL : L ≤ 2560) (hi : i + 5 ≤ L) (hTx : zTx (fun q => s.heap.size ≤ q) s) (htr : E.1.stackTraces = false) (hf : ce + 1 ≤ 601024 ∧ sl + 6 ≤ 7293033) (h : RAll M N)
    (k : ∀ M2, RAll M2 (N + 1) → G E (gL p e s m b below meth c (ce + 1) (sl + 6)) 8 1565 (lvL i) [] M2) : G E (gL p e s m b below meth c ce sl) 8 337 (lvL i) [] M := by
  refine g_aload_n (i := 1) (x := 0) hc (dF_337) rfl rfl ?_
  refine g_aload_n (i := 0) (x := 148) hc (dF_338) rfl rfl ?_
  refine g_iload (i := 4) (x := nI i) hc (dF_339) rfl ?_
  refine g_iconst (v := 1) hc (dF_341) (by decide) ?_
  refine g_iadd hc (dF_342) ?_
  refine g_sld (j := i + 1) hc hs (dF_343) (nI_add i 1) (by omega) hL ?_
  refine g_aload_n (i := 0) (x := 148) hc (dF_344) rfl rfl ?_
  refine g_iload (i := 4) (x := nI i) hc (dF_345) rfl ?_
  refine g_iconst (v := 2) hc (dF_347) (by decide) ?_
  refine g_iadd hc (dF_348) ?_
  refine g_sld (j := i + 2) hc hs (dF_349) (nI_add i 2) (by omega) hL ?_
  refine g_aload_n (i := 3) (x := 59) hc (dF_350) rfl rfl ?_
  have hh := h
  obtain ⟨n, nd, hS, hW, hX, hO, hP, hK, hC, hH, hU⟩ := hh
  have e0 : fX11_thing (xs (i + 1)) (xs (i + 2)) M = aThing (xs (i + 1)) (xs (i + 2)) M := eqThing hS _ _
  have hw : tThing (xs (i + 1)) (xs (i + 2)) M ∨ ∃ v, fX11_thing (xs (i + 1)) (xs (i + 2)) M = some v := by
    cases z : aThing (xs (i + 1)) (xs (i + 2)) M with
    | none => exact Or.inl (noThing hS z)
    | some v => exact Or.inr ⟨v, e0.trans z⟩
  refine g_callSw (d' := 14) (n := 4) ([.ref 0, .int (xs (i + 1)), .int (xs (i + 2)), .ref 59]) hc hTx wc_thing wi_law wl_thing ws_thing ⟨by decide, by decide, by decide +kernel⟩ (by decide) (dF_351) rfl (by omega) (Nat.le_of_ble_eq_true rfl) hf (wr_thing (by omega) htr hw) (fun r N2 q => ?_)
  rcases q with ⟨q1, rfl, rfl⟩ | ⟨v, q1, rfl, rfl⟩
  · have hr : fX12_thing (xs (i + 1)) (xs (i + 2)) N2 = some (0, zSI (zSI N2 36 12 0) 36 12 1) := by
      rcases p_thing hS hW (xs (i + 1)) (xs (i + 2)) with ⟨z, z2⟩ | ⟨v, z, z2⟩
      · exact z2 N2 (fun q _ _ => rfl)
      · exact absurd (e0.trans z) (thr_thing q1 v)
    refine law_thing_tail (N := N) hc1 (by omega) hs1 hL hi hr (by rw [gSI, if_pos ⟨rfl, rfl⟩]) (fun z => absurd z (by decide)) (k _ ?_)
    exact h.flag (fun q hq => by rw [zSI_other _ _ _ hq, zSI_other _ _ _ hq]) (fun j hj => by rw [gSI, if_neg (fun z => hj z.2), gSI, if_neg (fun z => hj z.2)]) (fun q hq => rfl) rfl
  · have hr : fX12_thing (xs (i + 1)) (xs (i + 2)) (zSJ M 59 0 v.toInt64) = some (v, zSI (zSJ M 59 0 v.toInt64) 36 12 0) := by
      rcases p_thing hS hW (xs (i + 1)) (xs (i + 2)) with ⟨z, z2⟩ | ⟨v2, z, z2⟩
      · rw [e0, z] at q1; cases q1
      · rw [e0, z] at q1; cases q1; exact z2 _ (fun q _ _ => rfl)
    refine law_thing_tail (N := N) hc1 (by omega) hs1 hL hi hr (by rw [gSI, if_pos ⟨rfl, rfl⟩]) (fun _ => ?_) (k _ ?_)
    · show (zSJ M 59 0 v.toInt64).2.1 59 0 = _
      simp only [zSJ, and_self, if_true]
    · exact h.flag (fun q hq => by rw [zSI_other _ _ _ hq]; rfl) (fun j hj => by rw [gSI, if_neg (fun z => hj z.2)]; rfl) (fun q hq => by show (zSJ M 59 0 v.toInt64).2.1 q = _; rw [zSJ_other _ _ _ hq]) rfl
theorem law_deed {E : zE} {p : Program} {e : Env} {s : State} {m : MethodId} {b : Nat} {below : List Frame} {meth : Method} {c : Code} {d ce sl L i N : Nat} {xs : Nat → Int32} {M : zM} (hc : Cx E (gL p e s m b below meth c ce sl) RLw code 8 d) (hc1 : Cx E (gL p e s m b below meth c (ce + 1) (sl + 6)) RLw code 8 d) (hd : 135 ≤ d) (hs : Scr E (gL p e s m b below meth c ce sl) L xs) (hs1 : Scr E (gL p e s m b below meth c (ce + 1) (sl + 6)) L xs) (hL : L ≤ 2560) (hi : i + 5 ≤ L) (hTx : zTx (fun q => s.heap.size ≤ q) s) (htr : E.1.stackTraces = false) (hf : ce + 1 ≤ 601024 ∧ sl + 6 ≤ 7293033) (h : RAll M N)
    (k : ∀ M2, RAll M2 (N + 1) → G E (gL p e s m b below meth c (ce + 1) (sl + 6)) 8 1565 (lvL i) [] M2) : G E (gL p e s m b below meth c ce sl) 8 405 (lvL i) [] M := by
  refine g_aload_n (i := 1) (x := 0) hc (dF_405) rfl rfl ?_
  refine g_aload_n (i := 0) (x := 148) hc (dF_406) rfl rfl ?_
  refine g_iload (i := 4) (x := nI i) hc (dF_407) rfl ?_
  refine g_iconst (v := 1) hc (dF_409) (by decide) ?_
  refine g_iadd hc (dF_410) ?_
  refine g_sld (j := i + 1) hc hs (dF_411) (nI_add i 1) (by omega) hL ?_
  refine g_aload_n (i := 0) (x := 148) hc (dF_412) rfl rfl ?_
  refine g_iload (i := 4) (x := nI i) hc (dF_413) rfl ?_
  refine g_iconst (v := 2) hc (dF_415) (by decide) ?_
  refine g_iadd hc (dF_416) ?_
  refine g_sld (j := i + 2) hc hs (dF_417) (nI_add i 2) (by omega) hL ?_
  refine g_aload_n (i := 3) (x := 59) hc (dF_418) rfl rfl ?_
  have hh := h
  obtain ⟨n, nd, hS, hW, hX, hO, hP, hK, hC, hH, hU⟩ := hh
  have e0 : fX11_deed (xs (i + 1)) (xs (i + 2)) M = aDeed (xs (i + 1)) (xs (i + 2)) M := (eqDeed hS _ _).1
  have hw : tDeed (xs (i + 1)) (xs (i + 2)) M ∨ ∃ v, fX11_deed (xs (i + 1)) (xs (i + 2)) M = some v := by
    cases z : aDeed (xs (i + 1)) (xs (i + 2)) M with
    | none => exact Or.inl (noDeed hS z)
    | some v => exact Or.inr ⟨v, e0.trans z⟩
  refine g_callSw (d' := 14) (n := 4) ([.ref 0, .int (xs (i + 1)), .int (xs (i + 2)), .ref 59]) hc hTx wc_deed wi_law wl_deed ws_deed ⟨by decide, by decide, by decide +kernel⟩ (by decide) (dF_419) rfl (by omega) (Nat.le_of_ble_eq_true rfl) hf (wr_deed (by omega) htr hw) (fun r N2 q => ?_)
  rcases q with ⟨q1, rfl, rfl⟩ | ⟨v, q1, rfl, rfl⟩
  · have hr : fX12_deed (xs (i + 1)) (xs (i + 2)) N2 = some (0, zSI (zSI N2 36 12 0) 36 12 1) := by
      rcases p_deed hS hW (xs (i + 1)) (xs (i + 2)) with ⟨z, z2⟩ | ⟨v, z, z2⟩
      · exact z2 N2 (fun q _ _ => rfl)
      · exact absurd (e0.trans z) (thr_deed q1 v)
    refine law_deed_tail (N := N) hc1 (by omega) hs1 hL hi hr (by rw [gSI, if_pos ⟨rfl, rfl⟩]) (fun z => absurd z (by decide)) (k _ ?_)
    exact h.flag (fun q hq => by rw [zSI_other _ _ _ hq, zSI_other _ _ _ hq]) (fun j hj => by rw [gSI, if_neg (fun z => hj z.2), gSI, if_neg (fun z => hj z.2)]) (fun q hq => rfl) rfl
  · have hr : fX12_deed (xs (i + 1)) (xs (i + 2)) (zSJ M 59 0 v.toInt64) = some (v, zSI (zSJ M 59 0 v.toInt64) 36 12 0) := by
      rcases p_deed hS hW (xs (i + 1)) (xs (i + 2)) with ⟨z, z2⟩ | ⟨v2, z, z2⟩
      · rw [e0, z] at q1; cases q1
      · rw [e0, z] at q1; cases q1; exact z2 _ (fun q _ _ => rfl)
    refine law_deed_tail (N := N) hc1 (by omega) hs1 hL hi hr (by rw [gSI, if_pos ⟨rfl, rfl⟩]) (fun _ => ?_) (k _ ?_)
    · show (zSJ M 59 0 v.toInt64).2.1 59 0 = _
      simp only [zSJ, and_self, if_true]
    · exact h.flag (fun q hq => by rw [zSI_other _ _ _ hq]; rfl) (fun j hj => by rw [gSI, if_neg (fun z => hj z.2)]; rfl) (fun q hq => by show (zSJ M 59 0 v.toInt64).2.1 q = _; rw [zSJ_other _ _ _ hq]) rfl
theorem law_row {E : zE} {p : Program} {e : Env} {s : State} {m : MethodId} {b : Nat} {below : List Frame} {meth : Method} {c : Code} {d ce sl L i N : Nat} {xs : Nat → Int32} {M : zM} (hc : Cx E (gL p e s m b below meth c ce sl) RLw code 8 d) (hc1 : Cx E (gL p e s m b below meth c (ce + 1) (sl + 6)) RLw code 8 d) (hd : 135 ≤ d) (hs : Scr E (gL p e s m b below meth c ce sl) L xs) (hs1 : Scr E (gL p e s m b below meth c (ce + 1) (sl + 6)) L xs) (hL : L ≤ 2560) (hi : i + 5 ≤ L) (hTx : zTx (fun q => s.heap.size ≤ q) s) (htr : E.1.stackTraces = false) (hf : ce + 1 ≤ 601024 ∧ sl + 6 ≤ 7293033) (h : RAll M N)
    (k : ∀ M2, RAll M2 (N + 1) → G E (gL p e s m b below meth c (ce + 1) (sl + 6)) 8 1565 (lvL i) [] M2) : G E (gL p e s m b below meth c ce sl) 8 1510 (lvL i) [] M := by
  refine g_aload_n (i := 1) (x := 0) hc (dF_1510) rfl rfl ?_
  refine g_aload_n (i := 0) (x := 148) hc (dF_1511) rfl rfl ?_
  refine g_iload (i := 4) (x := nI i) hc (dF_1512) rfl ?_
  refine g_iconst (v := 1) hc (dF_1514) (by decide) ?_
  refine g_iadd hc (dF_1515) ?_
  refine g_sld (j := i + 1) hc hs (dF_1516) (nI_add i 1) (by omega) hL ?_
  refine g_aload_n (i := 3) (x := 59) hc (dF_1517) rfl rfl ?_
  have hh := h
  obtain ⟨n, nd, hS, hW, hX, hO, hP, hK, hC, hH, hU⟩ := hh
  have e0 : fX11_row (xs (i + 1)) M = aRow (xs (i + 1)) M := eqRow hO _
  have hw : tRow (xs (i + 1)) M ∨ ∃ v, fX11_row (xs (i + 1)) M = some v := by
    cases z : aRow (xs (i + 1)) M with
    | none => exact Or.inl (noRow z)
    | some v => exact Or.inr ⟨v, e0.trans z⟩
  refine g_callSw (d' := 14) (n := 3) ([.ref 0, .int (xs (i + 1)), .ref 59]) hc hTx wc_row wi_law wl_row ws_row ⟨by decide, by decide, by decide +kernel⟩ (by decide) (dF_1518) rfl (by omega) (Nat.le_of_ble_eq_true rfl) hf (wr_row (by omega) htr hw) (fun r N2 q => ?_)
  rcases q with ⟨q1, rfl, rfl⟩ | ⟨v, q1, rfl, rfl⟩
  · have hr : fX12_row (xs (i + 1)) N2 = some (0, zSI (zSI N2 36 12 0) 36 12 1) := by
      rcases p_row hO (xs (i + 1)) with ⟨z, z2⟩ | ⟨v, z, z2⟩
      · exact z2 N2 (fun q _ _ => rfl) rfl
      · exact absurd (e0.trans z) (thr_row q1 v)
    refine law_row_tail (N := N) hc1 (by omega) hs1 hL hi hr (by rw [gSI, if_pos ⟨rfl, rfl⟩]) (fun z => absurd z (by decide)) (k _ ?_)
    exact h.flag (fun q hq => by rw [zSI_other _ _ _ hq, zSI_other _ _ _ hq]) (fun j hj => by rw [gSI, if_neg (fun z => hj z.2), gSI, if_neg (fun z => hj z.2)]) (fun q hq => rfl) rfl
  · have hr : fX12_row (xs (i + 1)) (zSJ M 59 0 v) = some (v, zSI (zSJ M 59 0 v) 36 12 0) := by
      rcases p_row hO (xs (i + 1)) with ⟨z, z2⟩ | ⟨v2, z, z2⟩
      · rw [e0, z] at q1; cases q1
      · rw [e0, z] at q1; cases q1; exact z2 _ (fun q _ _ => rfl) (by rw [zSJ_other _ _ _ (by omega)])
    refine law_row_tail (N := N) hc1 (by omega) hs1 hL hi hr (by rw [gSI, if_pos ⟨rfl, rfl⟩]) (fun _ => ?_) (k _ ?_)
    · show (zSJ M 59 0 v).2.1 59 0 = _
      simp only [zSJ, and_self, if_true]
    · exact h.flag (fun q hq => by rw [zSI_other _ _ _ hq]; rfl) (fun j hj => by rw [gSI, if_neg (fun z => hj z.2)]; rfl) (fun q hq => by show (zSJ M 59 0 v).2.1 q = _; rw [zSJ_other _ _ _ hq]) rfl
