/-! the exception: made, thrown out of its method -/
def nN : String := "java/util/NoSuchElementException"
def nR : String := "java/lang/RuntimeException"
def nX : String := "java/lang/Exception"
def nseO (own : String) (ic : Nat) : List Cond :=
  [.methodLink own ic (Bundle.initS nN), .instantiable nN 6, .selects nN Bundle.tFill0 Bundle.tFill0, .selects nN Bundle.tFill Bundle.tFill,
   .lays nN Bundle.tN "cause" "Ljava/lang/Throwable;", .lays nN Bundle.tN "stackTrace" Bundle.steD, .lays nN Bundle.tN "suppressedExceptions" Bundle.listD, .lays nN Bundle.tN "detailMessage" "Ljava/lang/String;",
   .fieldLink Bundle.tN 198 Bundle.tN "backtrace" "Ljava/lang/Object;", .lays Bundle.tN Bundle.tN "backtrace" "Ljava/lang/Object;", .lays nN Bundle.tN "backtrace" "Ljava/lang/Object;"]
def nseW (own : String) (ic : Nat) : List Cond :=
  Bundle.throwableAtoms ++ (Bundle.throwableSAtoms ++ (Bundle.passSAtoms nN nR 13 prog_30_method_4_code ++ (Bundle.chainSAtoms nR [nX] ++
  nseO own ic)))
theorem nseW_a {own : String} {ic : Nat} {w : Cond} (h : w ∈ Bundle.throwableAtoms) : w ∈ nseW own ic := List.mem_append_left _ h
theorem nseW_s {own : String} {ic : Nat} {w : Cond} (h : w ∈ Bundle.throwableSAtoms) : w ∈ nseW own ic := List.mem_append_right _ (List.mem_append_left _ h)
theorem nseW_p {own : String} {ic : Nat} {w : Cond} (h : w ∈ Bundle.passSAtoms nN nR 13 prog_30_method_4_code) : w ∈ nseW own ic := List.mem_append_right _ (List.mem_append_right _ (List.mem_append_left _ h))
theorem nseW_c {own : String} {ic : Nat} {w : Cond} (h : w ∈ Bundle.chainSAtoms nR [nX]) : w ∈ nseW own ic := List.mem_append_right _ (List.mem_append_right _ (List.mem_append_right _ (List.mem_append_left _ h)))
theorem nseW_o {own : String} {ic : Nat} {w : Cond} (h : w ∈ nseO own ic) : w ∈ nseW own ic := List.mem_append_right _ (List.mem_append_right _ (List.mem_append_right _ (List.mem_append_right _ h)))
theorem nse_0 : decode prog_30_method_4_code 0 = .ok (.aload_n 0, 1) := by decide +kernel
theorem nse_1 : decode prog_30_method_4_code 1 = .ok (.aload_n 1, 1) := by decide +kernel
theorem nse_2 : decode prog_30_method_4_code 2 = .ok (.invokespecial 13, 3) := by decide +kernel
theorem nse_5 : decode prog_30_method_4_code 5 = .ok (.return_, 1) := by decide +kernel
section NSE
variable {p : Program} {l : Launch} {e : Env} {R : Room} {s : State} {m : MethodId} {args : Array Value} {below : List Frame} {meth : Method} {c : Code} {H : Heap} {locs : List Loc} {cells slots : Nat} {Q : State → Prop}
theorem w_newX {cc : ByteArray} {own C : String} {index n pc : Nat} {ls : Array Slot} {rest : List Value} (hx : p.tables.exec = Jvm.exec) (hb : c.code = cc) (hown : s.vm.findClass own = some m.cls)
    (hlink : (Cond.classLink own index C).before args s = true) (hins : (Cond.instantiable C n).before args s = true) (hinit : (Cond.initialized C).before args s = true) (hdg : decode cc pc = .ok (.new index, 3)) (hf : cells + 1 ≤ R.cells ∧ slots + n ≤ R.slots)
    (kk : ∀ (cC : ClassId) (kC : Class), s.vm.findClass C = some cC → s.vm.classes[cC]? = some kC → W p l e R s m args below meth c (H.push (freshCell cC kC)) locs (cells + 1) (slots + n) Q (F0 m (pc + 3) ls (.ref H.size :: rest))) :
    W p l e R s m args below meth c H locs cells slots Q (F0 m pc ls rest) := by
  intro T hT X
  obtain ⟨vm', cC, kC, h1, h2, -, -, X', st⟩ := X.newCold hx hown hlink hins hinit (g := F0 m pc ls rest) rfl (by rw [hb]; exact hdg) hf.1 hf.2
  obtain ⟨t, a1, b1⟩ := kk cC kC h1 h2 _ (by show T.heap.push _ = _; rw [hT]) X'
  refine ⟨t, st t ?_, b1⟩
  rw [hT]
  exact a1
set_option maxHeartbeats 1000000 in
theorem w_nse {cc : ByteArray} {own : String} {ic pc a q : Nat} {ls : Array Slot} {rest : List Value} {A : Nat → Prop} {u0 sen : RefV} (hx : p.tables.exec = Jvm.exec) (hb : c.code = cc) (hml : c.maxLocals = ls.size) (hown : s.vm.findClass own = some m.cls) (hno : c.exceptionTable.isEmpty = true) (hlk : meth.locks = false) (htr : l.stackTraces = false)
    (hw : ∀ w ∈ nseW own ic, w.before args s = true) (hZ1 : va_Z Bundle.tN "UNASSIGNED_STACK" Bundle.steD u0.v A s s.heap) (hZ2 : va_Z Bundle.tN "SUPPRESSED_SENTINEL" Bundle.listD sen.v A s s.heap) (hS : va_S A s.heap H locs) (hnew : s.heap.size ≤ a)
    {cX : ClassId} {kX : Class} (hfX : s.vm.findClass nN = some cX) (hkX : s.vm.classes[cX]? = some kX) (hcell : H[a]? = some (freshCell cX kX))
    (hd6 : decode cc pc = .ok (.invokespecial ic, 3)) (hd9 : decode cc (pc + 3) = .ok (.athrow, 1)) (hRf : 5 < R.frames) (hRl : (rest.map fun v => v.category).sum + 90 ≤ R.locals)
    (hQ : ∀ (U : State) (ce : Cell), U.status = .running → Ended U below (.threw a) → s.WarmedH U.vm → s.sameButNew ({ U with vm := s.vm } : State) locs cells slots → U.heap = H.setIfInBounds a ce → ce.cls = cX → ce.vm = .none → Q U) :
    W p l e R s m args below meth c H locs cells slots Q (F0 m pc ls (.ref q :: .ref a :: .ref a :: rest)) := by
  intro T0 hT X
  have howns : e.platform.frameOwnsMonitors = true := by rw [X.admits.platform]
  have hfin : e.platform.finalization = false := by rw [X.admits.platform]
  have hpl : e.platform.magicAccessors = ({} : Platform).magicAccessors := by rw [X.admits.platform]
  have hoff : e.platform.stackTraces = false := by rw [X.admits.platform]; exact htr
  have ho : ∀ w : Cond, w ∈ nseO own ic → w.before args s = true := fun w h => hw w (nseW_o h)
  obtain ⟨T, Z0, L, -, Y⟩ := ThrowableC.of_atoms (args := args) howns hfin hpl (fun x hx => hw x (nseW_a hx))
  obtain ⟨Z, M, LZ, LM, hnZ⟩ := Init0T.ofS_atoms (args := args) hpl L Y (fun x hx => hw x (nseW_s hx))
  obtain ⟨P1, L1, hP1m, hP1s⟩ := PassC.ofS_atoms (args := args) (s := s) hpl (X := nN) (Y := nR) (by decide) (by decide) nse_0 nse_1 nse_2 nse_5 (fun x hx => hw x (nseW_p hx))
  obtain ⟨P2, Ps, hlen, L2, hL, hP2m, hlink2, hlink⟩ := Bundle.chainS (args := args) hpl hnZ [nX] nR (by decide +kernel) (by decide +kernel) (fun x hx => hw x (nseW_c hx))
  have hfound : s.vm.findClass nN = some P1.m.cls := findClass_of_methodNamed hP1m
  cases Option.some.inj (hfX.symm.trans hfound)
  obtain ⟨c1, kX', hc1, hk, hord, -, -, hn6⟩ := Cond.instantiable_spec (ho (.instantiable nN 6) (by simp [nseO]))
  cases Option.some.inj (hc1.symm.trans hfound)
  cases Option.some.inj (hkX.symm.trans hk)
  have hsel0 : selectMethod e.platform s.vm P1.m.cls T.fill0 = .method T.fill0 := by
    obtain ⟨c2, r2, m2, q1, q2, q3, q4, -⟩ := Cond.selects_spec (ho (.selects nN Bundle.tFill0 Bundle.tFill0) (by simp [nseO]))
    cases Option.some.inj (q1.symm.trans hfound)
    cases Option.some.inj (q2.symm.trans (State.methodFound?_of_named Y.fill0 (by decide)))
    cases Option.some.inj (q3.symm.trans Y.fill0)
    rw [Launch.admits_selectMethod X.admits]; exact q4
  have hselF : selectMethod e.platform s.vm P1.m.cls T.fill = .method T.fill := by
    obtain ⟨c2, r2, m2, q1, q2, q3, q4, -⟩ := Cond.selects_spec (ho (.selects nN Bundle.tFill Bundle.tFill) (by simp [nseO]))
    cases Option.some.inj (q1.symm.trans hfound)
    cases Option.some.inj (q2.symm.trans (State.methodFound?_of_named Y.fill (by decide)))
    cases Option.some.inj (q3.symm.trans Y.fill)
    rw [Launch.admits_selectMethod X.admits]; exact q4
  obtain ⟨cf1, kf1, fi1, f1, a1, cell1, u1, u2, u3, u4, u5, u6, u7, u8⟩ := hZ1
  obtain ⟨cf2, kf2, fi2, f2, a2, cell2, v1, v2, v3, v4, v5, v6, v7, v8⟩ := hZ2
  have eU := Option.some.inj (u1.symm.trans Y.unassigned)
  have eS := Option.some.inj (v1.symm.trans Y.sentinel)
  simp only [Prod.mk.injEq] at eU eS
  obtain ⟨-, rfl, -, rfl⟩ := eU
  obtain ⟨-, rfl, -, rfl⟩ := eS
  cases u4.symm.trans L.statics
  cases v4.symm.trans L.statics
  cases Option.some.inj (u5.symm.trans v5)
  have hlt1 : T.aS < s.heap.size := (Array.getElem?_eq_some_iff.mp u5).1
  have hcellS : T0.heap[T.aS]? = some cell1 := by rw [hT, hS.2.1 _ hlt1 u8]; exact u5
  obtain ⟨ci198, i198, fB, hk198, hg198, ha198, hsB, -, hnB, htB, hffB⟩ := Cond.ownField (t := .object "java/lang/Object") Y.found L.cls (by decide +kernel) (ho (.fieldLink Bundle.tN 198 Bundle.tN "backtrace" "Ljava/lang/Object;") (by simp [nseO])) (ho (.lays Bundle.tN Bundle.tN "backtrace" "Ljava/lang/Object;") (by simp [nseO])) e.platform hpl
  have hknownS : cell1.vm ≠ .unknown := by
    intro hu
    rw [hu] at u6
    cases u6
  have hneS : T.aS ≠ a := Nat.ne_of_lt (Nat.lt_of_lt_of_le hlt1 hnew)
  obtain ⟨iM, hffM⟩ := Y.msg
  obtain ⟨tyC, dC, hdC, hdnC⟩ := Cond.laysAt hfound hk Y.cause (ho (.lays nN Bundle.tN "cause" "Ljava/lang/Throwable;") (by simp [nseO]))
  obtain ⟨tyS, dS, hdS, hdnS⟩ := Cond.laysAt hfound hk Y.stack (ho (.lays nN Bundle.tN "stackTrace" Bundle.steD) (by simp [nseO]))
  obtain ⟨tyP, dP, hdP, hdnP⟩ := Cond.laysAt hfound hk Y.supp (ho (.lays nN Bundle.tN "suppressedExceptions" Bundle.listD) (by simp [nseO]))
  obtain ⟨tyM, dM, hdM, hdnM⟩ := Cond.laysAt hfound hk hffM (ho (.lays nN Bundle.tN "detailMessage" "Ljava/lang/String;") (by simp [nseO]))
  obtain ⟨tyB, dB, hdB, hdnB⟩ := Cond.laysAt hfound hk hffB (ho (.lays nN Bundle.tN "backtrace" "Ljava/lang/Object;") (by simp [nseO]))
  have bC := Cond.laysApart hdB hdC hdnB hdnC (by rw [hnB, Y.causeName]; decide)
  have bS := Cond.laysApart hdB hdS hdnB hdnS (by rw [hnB, Y.stackName]; decide)
  have bP := Cond.laysApart hdB hdP hdnB hdnP (by rw [hnB, Y.suppName]; decide)
  have hskip : SkipFacts T e.platform s (fun u => u) u0 ((preparedCellV T.toThrowableT (freshCell P1.m.cls kX) a u0 sen).withEntry T0.cur) :=
    ⟨{ ci198 := ci198, i198 := i198, fBack := fB }, ⟨hk198, hg198, ha198, hsB⟩, by
      have := fresh_default (c := P1.m.cls) tyB
      rw [htB] at this
      simpa [preparedCellV, Cell.setSlot, Cell.withEntry, Array.getElem?_setIfInBounds, bC, bS, bP, bC.symm, bS.symm, bP.symm, defaultValue] using this, fun _ _ => rfl⟩
  obtain ⟨tm, methC, cdC, kC, vm₁, hnC, -, -, -, -, -, -, -, hW₁, st1⟩ := Steps.initColdS (tb := p.tables) (e := e) (below := below) (s := s) (U := T0) X.here hx X.warmed hpl hown (t := Bundle.initS nN) rfl rfl (by decide)
    (ho (.methodLink own ic (Bundle.initS nN)) (by simp [nseO])) (hw (.instanceMethod (Bundle.initS nN)) (nseW_p (by simp [Bundle.passSAtoms]))) (bytes := prog_30_method_4_code) (maxL := 2) (hw (.code (Bundle.initS nN) prog_30_method_4_code 2 none) (nseW_p (by simp [Bundle.passSAtoms])))
    (f := F0 m pc ls (.ref q :: .ref a :: .ref a :: rest)) rfl (a := a) (msg := .ref q) (rest := .ref a :: rest) rfl (by rw [hb]; exact hd6)
  cases Option.some.inj (hnC.symm.trans hP1m)
  have X₁ := X.noted hW₁
  obtain ⟨vm₂, X₂, st2⟩ := X₁.ctorMessageOffV hx (g := F0 m pc ls (.ref a :: rest)) rfl hml.symm T L Z LZ M LM (P1 :: P2 :: Ps)
    (fun P hP => by
      rcases List.mem_cons.mp hP with rfl | hP
      · exact L1
      · rcases List.mem_cons.mp hP with rfl | hP
        · exact L2
        · exact hL P hP) ⟨Option.some.inj (hP1s.symm.trans hP2m), hlink2, hlink⟩ (u0 := u0) (sen := sen) (self := a) (msg := .ref q) rfl (cell := freshCell P1.m.cls kX) (cellS := cell1)
    (by show T0.heap[a]? = _; rw [hT]; exact hcell) (fun _ => by simp) (by simp) rfl rfl hsel0 hselF hcellS hneS hknownS u7 v7
    (Takes.of_laid hk hord tyC (by rw [Y.causeType]; rfl)) (Takes.of_laid hk hord tyS (by rw [Y.stackType]; exact fits_refV_array _ u0)) (Takes.of_laid hk hord tyP (by rw [Y.suppType]; exact fits_refV_object _ sen))
    (Takes.of_laid hk hord tyM (by rw [Y.msgType]; exact fits_refV_object _ ⟨.ref q, rfl⟩)) Y.objLocals hskip hoff [] (by rw [hb]; exact hd6)
    (by have : Ps.length = 1 := hlen
        simp only [List.length_cons, this]; omega) (by
        have : Ps.length = 1 := hlen
        show 2 * 0 + (1 + (rest.map fun v => v.category).sum) + (13 * (Ps.length + 1 + 1) + 42) ≤ R.locals
        rw [this]; omega)
  obtain ⟨hwalk, hrun, hended, hWU, hsame⟩ := X₂.athrowLeaves hx (g := F0 m (pc + 3) ls (.ref a :: rest)) rfl rfl rfl (covers_of_empty hno _) (a := a) (rest := rest) rfl (by rw [hb]; exact hd9)
  refine ⟨_, st1 _ (fun acts => ?_), hQ _ (plainBareV T.toThrowableT (freshCell P1.m.cls kX) a u0 sen (.ref q)) hrun hended hWU (hsame.weaken (fun y hy hlt' => ?_) (Nat.le_refl _) (Nat.le_refl _)) ?_ rfl rfl⟩
  · rw [doInvoke_state]
    exact st2 _ hwalk
  · rcases List.mem_append.mp hy with h1 | h1
    · exact h1
    · exfalso
      have hb' : y.base = a := by
        simp only [List.mem_cons, List.not_mem_nil, or_false] at h1
        rcases h1 with rfl | rfl | rfl | rfl | rfl <;> rfl
      rw [hb'] at hlt'
      exact Nat.not_lt.mpr hnew hlt'
  · show T0.heap.setIfInBounds a _ = _
    rw [hT]
theorem va_ldcSw {cc : ByteArray} {own tx : String} {index q pc : Nat} {ls : Array Slot} {rest : List Value} (hexec : p.tables.exec = Jvm.exec) (hb : c.code = cc) (hown : s.vm.findClass own = some m.cls) (hZ : vk_R own index tx q s) (hdg : decode cc pc = .ok (.ldc_w index, 3))
    (k : W p l e R s m args below meth c H locs cells slots Q (F0 m (pc + 3) ls (.ref q :: rest))) : W p l e R s m args below meth c H locs cells slots Q (F0 m pc ls rest) := by
  intro T hT X
  obtain ⟨t, a1, b1⟩ := k T hT X
  exact ⟨t, X.ldcStringW hexec hown (text := tx) (a := q) hZ.1 hZ.2 (g := F0 m pc ls rest) rfl (by rw [hb]; exact hdg) t a1, b1⟩
end NSE
