/-! THROWS OVER THE FIXED WORLD -/
def zTS : List (Nat × String) := [(171, "no such thing"), (197, "no such question about a thing"), (202, "no such deed"), (207, "no such question about a deed"), (404, "no such number in the row")]
def zDc : List Cond := [.declares (Bundle.initS nR), .declares (Bundle.initS nX), .declares (Bundle.initS Bundle.tN)]
def zLs : List (String × String) := [("UNASSIGNED_STACK", Bundle.steD), ("SUPPRESSED_SENTINEL", Bundle.listD)]
theorem face_warm {w : Cond} {s U : State} (h1 : w.onTables = true) (h2 : w.keepsFace = true) (hW : s.WarmedH U.vm) (h : va_Nw w s) : va_Nw w U := by
  have h3 : w.before #[] (s.setVm U.vm) = true := Cond.before_shiftedFace (State.Shifted.of_warmed hW) w h2 h
  rw [Cond.onTables_vm (A' := #[]) (U' := U) U.vm w h1, State.setVm_self] at h3
  exact h3
theorem zDc_warm {w : Cond} {s U : State} (hw : w ∈ zDc) (hW : s.WarmedH U.vm) (h : va_Nw w s) : va_Nw w U := by
  simp only [zDc, List.mem_cons, List.not_mem_nil, or_false] at hw
  rcases hw with rfl | rfl | rfl <;> exact face_warm rfl rfl hW h
theorem ls_next {n d : String} {v : Value} {A : Nat → Prop} {s U : State} (hz : va_Z Bundle.tN n d v A s s.heap) (hq : ∀ a : Nat, a < s.heap.size → ¬ A a → U.heap[a]? = s.heap[a]?) (hW : s.vm.Alike U.vm) (h : va_Nw (.laysStatic Bundle.tN n d) s) : va_Nw (.laysStatic Bundle.tN n d) U := by
  obtain ⟨cf, kf, fi, f0, a0, cell0, u1, u2, u3, u4, u5, u6, u7, u8⟩ := hz
  obtain ⟨c, k, i, f, a, cell, hc, hi, hst, ha, hcell, hs, hcls, hlt, hty⟩ := Cond.laysStatic_spec (args := #[]) h
  cases Option.some.inj (u1.symm.trans hi)
  cases u4.symm.trans ha
  obtain ⟨k', hi', he⟩ := State.fieldFound?_setVm hW hi
  exact Cond.laysStatic_of (s := U) (by rw [hW.findClass]; exact hc) hi' hst (by rw [he]; exact ha) (by rw [hq _ (Array.getElem?_eq_some_iff.mp hcell).1 u8]; exact hcell) hs hcls hlt (by rw [he]; exact hty)
def zTx (A : Nat → Prop) (U : State) : Prop := ((∀ q ∈ zTS, ∃ a, vk_R "LostByState" q.1 q.2 a U) ∧ (∀ w ∈ zDc, va_Nw w U) ∧ ∀ q ∈ zLs, va_Nw (.laysStatic Bundle.tN q.1 q.2) U) ∧ (∃ u : RefV, va_Z Bundle.tN "UNASSIGNED_STACK" Bundle.steD u.v A U U.heap) ∧ ∃ u : RefV, va_Z Bundle.tN "SUPPRESSED_SENTINEL" Bundle.listD u.v A U U.heap
theorem zTx.next {A A' : Nat → Prop} {s U : State} {H : Heap} {locs : List Loc} (h : zTx A s) (hS : va_S A s.heap H locs) (hAA : ∀ q, A' q → A q) (hU : U.heap = H) (hW : s.WarmedH U.vm) : zTx A' U := by
  have hq : ∀ a : Nat, a < s.heap.size → ¬ A a → U.heap[a]? = s.heap[a]? := fun a h1 h2 => by rw [hU]; exact hS.2.1 a h1 h2
  obtain ⟨⟨h1, hd, hl⟩, ⟨u, h2⟩, ⟨v, h3⟩⟩ := h
  refine ⟨⟨fun q hq => ?_, fun w hw => zDc_warm hw hW (hd w hw), fun z hz => ?_⟩, ⟨u, ((h2.kept hq).narrow hAA).moved hW.alike⟩, ⟨v, ((h3.kept hq).narrow hAA).moved hW.alike⟩⟩
  · obtain ⟨a, ha⟩ := h1 q hq
    exact ⟨a, ha.warm hW⟩
  · have hk := hl z hz
    simp only [zLs, List.mem_cons, List.not_mem_nil, or_false] at hz
    rcases hz with rfl | rfl
    · exact ls_next h2 hq hW.alike hk
    · exact ls_next h3 hq hW.alike hk
theorem zTx.same {A : Nat → Prop} {u U : State} (h : zTx A u) (hv : u.vm = U.vm) (hh : u.heap = U.heap) : zTx A U := by
  have ha : u.vm.Alike U.vm := by rw [hv]; exact Vm.Alike.refl _
  obtain ⟨⟨h1, hd, hl⟩, ⟨x, h2⟩, ⟨y, h3⟩⟩ := h
  have hl2 : ∀ q ∈ zLs, va_Nw (.laysStatic Bundle.tN q.1 q.2) U := fun z hz => by
    have hk := hl z hz
    simp only [zLs, List.mem_cons, List.not_mem_nil, or_false] at hz
    rcases hz with rfl | rfl
    · exact ls_next h2 (fun a _ _ => by rw [hh]) ha hk
    · exact ls_next h3 (fun a _ _ => by rw [hh]) ha hk
  rw [hh] at h2 h3
  refine ⟨⟨fun q hq => ?_, fun w hw => ?_, hl2⟩, ⟨x, h2.moved ha⟩, ⟨y, h3.moved ha⟩⟩
  · obtain ⟨a, ha⟩ := h1 q hq
    exact ⟨a, ha.same hv.symm⟩
  · have h9 := hd w hw
    simp only [zDc, List.mem_cons, List.not_mem_nil, or_false] at hw
    rcases hw with rfl | rfl | rfl <;> (unfold va_Nw at h9 ⊢; rw [← State.setVm_self u, Cond.onTables_vm (A' := #[]) (U' := U) u.vm _ rfl, hv, State.setVm_self] at h9; exact h9)
def zPreT (E : zE) (sz : Nat) (M : zM) (U : State) : Prop := zPre E sz M U ∧ zTx (va_A (zWE E M) sz) U
theorem zPreT.blind {E : zE} {sz : Nat} {M : zM} {av : List Value} : FrameBlind (va_Pc av (zPreT E sz M)) := by
  intro a U g mk q
  obtain ⟨q0, q1, q2⟩ := q
  obtain ⟨z0, z1⟩ := zPre.blind (av := av) a U g mk ⟨q0, q1⟩
  exact ⟨z0, z1, q2.same (U := U.calling g mk a) rfl rfl⟩
theorem zPreT.mk {E : zE} {M : zM} {A : Nat → Prop} {s U : State} {H : Heap} {locs : List Loc} (hP : va_P E.2.1 vwCl (zWE E M) H) (hD : va_D A (zWE E M)) (hS : va_S A s.heap H locs) (hA : ∀ q, s.heap.size ≤ q → A q) (hK : va_K E.2.1 vwCl (zTy E.2.2.1) s) (hN : zNw s) (hX : zEx E.2.2.2 A s) (hT : zTx A s) (hU : U.heap = H) (hW : s.WarmedH U.vm) : zPreT E H.size M U :=
  ⟨zPre.mk hP hD hS hA hK hN hX hU hW, hT.next hS (zFree hD hS hA) hU hW⟩
def zQt (E : zE) (M : zM) (A : Nat → Prop) : Array Value → State → Nat → State → Prop := fun _ st x t => zB E A M t ∧ va_F A st t ∧ ∃ ce : Cell, t.heap[x]? = some ce ∧ ce.vm = .none ∧ st.vm.findClass nN = some ce.cls
def zRmT (d : Nat) : Room := { frames := d, cells := 1, slots := 6, locals := 64 * d }
def CMT (E : zE) (d : Nat) (y : MethodName) (cc : ByteArray) (nL : Nat) (rt : Option FieldType) (as : List Value) (M : zM) : Prop :=
  ∀ sz, MetT E.1 y (.code y cc nL rt :: zTb) (zRmT d) (va_Pc (as.map (zv E.2.2.2)) (zPreT E sz M)) (zQt E M (va_A (zWE E M) sz)) 1 6 (va_A (zWE E M) sz)
def zRt (E : zE) (Γ : zT) (M : zM) : Prop := match Γ with
  | (p, e, R, s, m, args, below, meth, c, Q, A, ce, sl) => Q = MQT below (zQt E M A) args s 1 6 A ∧ ce = 0 ∧ sl = 0 ∧ 1 ≤ R.cells ∧ 6 ≤ R.slots ∧ zTx A s ∧ c.exceptionTable.isEmpty = true
theorem CMT.of {E : zE} {d : Nat} {y : MethodName} {cc : ByteArray} {nL : Nat} {rt : Option FieldType} {as : List Value} {M : zM} (hy : plainName y.cls = true) (hn : (lg_sl as).length ≤ nL) (body : ∀ Γ : zT, Cx E Γ y.cls cc nL d → zRt E Γ M → G E Γ nL 0 (lv_args 0 as) [] M) : CMT E d y cc nL rt as M := by
  intro sz
  refine MetT.ofW (cc := cc) (maxL := nL) (rt := rt) hy rfl ?_
  intro p e s m args below meth c s₁ B hml hno hv
  obtain ⟨rfl, ⟨hsz, hP, hK, hD0, hNw, hEx⟩, hTx⟩ := hv
  have hts := atoms_spec (ws := .code y cc nL rt :: zTb) B.pre
  have hown : s.vm.findClass y.cls = some m.cls := findClass_of_methodNamed B.named
  have hlocks := B.notSynchronized
  subst hsz
  have hD := hD0.self (sz := s.heap.size)
  have hl := lv_entry (as.map (zv E.2.2.2)) (n := nL) (by rw [zlg_len]; exact hn)
  rw [lg_entry_eq]
  rw [zlv_args] at hl
  exact body (p, e, zRmT d, s, m, _, below, meth, c, _, va_A (zWE E M) s.heap.size, 0, 0) ⟨B.exec, B.bytes, hml, hown, fun w hw => hts w (List.mem_cons_of_mem _ hw), hK, fun q h => Or.inr h, ⟨Nat.le_refl _, Nat.le_refl _, Nat.zero_le _, Nat.zero_le _⟩, hlocks, hNw, hEx⟩ ⟨rfl, rfl, rfl, Nat.le_refl _, Nat.le_refl _, hTx, hno⟩ _ _ [] hl hP hD va_S.rf
theorem zAll2 (ws ex : List Cond) (is : List Nat) (h : ws = is.filterMap (fun i => tables_1[i]?)) (hg : ws.all (fun w => goodWord w || decide (w ∈ ex)) = true) : ∀ w ∈ ws, w ∈ zTb ∨ w ∈ ex := by
  intro w hw
  have hg := List.all_eq_true.mp hg w hw
  rw [h] at hw
  obtain ⟨i, -, hi⟩ := List.mem_filterMap.mp hw
  rw [Bool.or_eq_true] at hg
  rcases hg with z | z
  · exact Or.inl (zTb_t i hi z)
  · exact Or.inr (of_decide_eq_true z)
theorem nseW_in : ∀ w ∈ nseW RX11 173, w ∈ zTb ∨ w ∈ (zDc ++ zLs.map (fun q => Cond.laysStatic Bundle.tN q.1 q.2)) := zAll2 _ _ [21, 1035, 1044, 1046, 1049, 1051, 1036, 1037, 32, 33, 1038, 1043, 1047, 1067, 1025, 1068, 1027, 1069, 1029, 1039, 1040, 1041, 1042, 1031, 1063, 1064, 1066, 1031, 1054, 1055, 1056, 1057, 1017, 1057, 1058, 1059, 1060, 1019, 1060, 1061, 1062, 1063, 1021, 1053, 1014, 1022, 1023, 1024, 1026, 1028, 1030, 1034, 1033, 1032] (by decide +kernel) (by decide +kernel)
theorem mt_1013 : Cond.classLink "LostByState" 169 nN ∈ zTb := zTb_t 1013 (by decide +kernel) (by decide +kernel)
theorem mt_24 : Cond.initialized nN ∈ zTb := zTb_t 24 (by decide +kernel) (by decide +kernel)
theorem mt_1014 : Cond.instantiable nN 6 ∈ zTb := zTb_t 1014 (by decide +kernel) (by decide +kernel)
theorem mt_1008 : Cond.classLink "LostByStateLaw" 13 nN ∈ zTb := zTb_t 1008 (by decide +kernel) (by decide +kernel)
theorem g_throw {E : zE} {Γ : zT} {cc : ByteArray} {nL d pc pl i : Nat} {tx : String} {lv : List (Nat × Value)} {M : zM} (h : Cx E Γ RX11 cc nL d) (hz : zRt E Γ M) (hd : 10 ≤ d) (htr : E.1.stackTraces = false) (hi : (i, tx) ∈ zTS) (dn : decode cc pc = .ok (.new 169, 3)) (dd : decode cc (pc + 3) = .ok (.dup, 1))
    (dl : (decode cc (pc + 4) = .ok (.ldc i, 2) ∧ pl = pc + 6) ∨ (decode cc (pc + 4) = .ok (.ldc_w i, 3) ∧ pl = pc + 7)) (d6 : decode cc pl = .ok (.invokespecial 173, 3)) (d9 : decode cc (pl + 3) = .ok (.athrow, 1)) : G E Γ nL pc lv [] M := by
  obtain ⟨p, e, R, s, m, args, below, meth, c, Q, A, ce, sl⟩ := Γ
  obtain ⟨hx, hb, hml, hown, hts, hK, hA, ⟨hRf, hRl, hRc, hRs⟩, hlk, hN, hX⟩ := h
  obtain ⟨rfl, rfl, rfl, r1, r6, ⟨⟨hst, hdc, hls⟩, ⟨u0, hZ1⟩, ⟨sen, hZ2⟩⟩, hno⟩ := hz
  have hnse : ∀ w ∈ nseW RX11 173, w.before args s = true := fun w hw => by
    rcases nseW_in w hw with z | z
    · exact hts w z
    · rcases List.mem_append.mp z with z | z
      · have h9 := hdc w z
        simp only [zDc, List.mem_cons, List.not_mem_nil, or_false] at z
        rcases z with rfl | rfl | rfl <;> exact h9
      · obtain ⟨q, hq, rfl⟩ := List.mem_map.mp z
        exact hls q hq
  intro ls H locs hl hP hD hS
  show W p E.1 e R s m args below meth c H locs 0 0 _ (F0 m pc ls [])
  refine w_newX hx hb hown (hts _ mt_1013) (hts _ mt_1014) (hts _ mt_24) dn ⟨by omega, by omega⟩ (fun cC kC hf hk => ?_)
  refine lv_dup hx hb dd rfl ?_
  obtain ⟨q, hq⟩ := hst _ hi
  have hkp : ∀ (ce : Cell) (j : Nat), j < H.size → ((H.push (freshCell cC kC)).setIfInBounds H.size ce)[j]? = H[j]? := by
    intro ce j hj
    rw [Array.getElem?_setIfInBounds, if_neg (by omega), Array.getElem?_push, if_neg (by omega)]
  have hS1 : va_S A s.heap (H.push (freshCell cC kC)) locs := ⟨by rw [Array.size_push]; exact Nat.le_succ_of_le hS.1, fun j h1 h2 => by
    rw [Array.getElem?_push, if_neg (by have := hS.1; omega)]; exact hS.2.1 j h1 h2, hS.2.2⟩
  have tl : W p E.1 e R s m args below meth c (H.push (freshCell cC kC)) locs (0 + 1) (0 + 6) (MQT below (zQt E M A) args s 1 6 A) (F0 m pl ls [.ref q, .ref H.size, .ref H.size]) := by
    refine w_nse (own := RX11) (ic := 173) (rest := []) hx hb (by rw [hml]; exact hl.1.symm) hown hno hlk htr hnse hZ1 hZ2 hS1 hS.1 hf hk (by rw [Array.getElem?_push, if_pos rfl]) d6 d9 (by omega) (by show 0 + 90 ≤ R.locals; omega) (fun U ce h1 h2 h3 h4 h5 h6 h7 => ?_)
    have hsz : U.heap.size = H.size + 1 := by rw [h5, Array.size_setIfInBounds, Array.size_push]
    refine ⟨H.size, h1, h2, ⟨⟨fun k z hz => (hP k z hz).kept (by rw [h5]; exact hkp ce _ (hP k z hz).lt), va_K.moved h3.alike hK, hD⟩, ⟨by rw [hsz]; exact Nat.le_succ_of_le hS.1, fun j g1 g2 => ?_⟩, ce, ?_, h7, by rw [h6]; exact hf⟩, locs, ⟨h3, h4⟩, hS.2.2⟩
    · rw [h5, hkp ce j (Nat.lt_of_lt_of_le g1 hS.1)]; exact hS.2.1 j g1 g2
    · rw [h5, Array.getElem?_setIfInBounds, if_pos rfl, if_pos (by rw [Array.size_push]; omega)]
  rcases dl with ⟨dl, rfl⟩ | ⟨dl, rfl⟩
  · exact va_ldcS hx hb hown hq dl tl
  · exact va_ldcSw hx hb hown hq dl tl
