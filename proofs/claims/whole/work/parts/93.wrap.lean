/-! THE LAW'S WRAPPERS -/
def gW (E : zE) (d : Nat) (post : Int32 → zM → Prop) (p : Program) (e : Env) (s : State) (m : MethodId) (args : Array Value) (below : List Frame) (meth : Method) (c : Code) (A : Nat → Prop) (ce sl : Nat) : zT := (p, e, zRmT d, s, m, args, below, meth, c, MQ below (va_Qi post (zB E A) A) args s 1 6 A, A, ce, sl)
def CMw (E : zE) (d : Nat) (y : MethodName) (cc : ByteArray) (nL : Nat) (hh : Nat × Nat × Nat × Nat) (as : List Value) (M : zM) (post : Int32 → zM → Prop) : Prop :=
  ∀ sz, Met E.1 y (.codeWith y cc nL (some .int) [hh] :: zTb) (zRmT d) (va_Pc (as.map (zv E.2.2.2)) (zPreT E sz M)) (va_Qi post (zB E (va_A (zWE E M) sz)) (va_A (zWE E M) sz)) 1 6 (va_A (zWE E M) sz)
theorem CMw.of {E : zE} {d : Nat} {y : MethodName} {cc : ByteArray} {nL : Nat} {hh : Nat × Nat × Nat × Nat} {as : List Value} {M : zM} {post : Int32 → zM → Prop} (hy : plainName y.cls = true) (hn : (lg_sl as).length ≤ nL)
    (body : ∀ p e s m args below meth c A, (∀ ce sl, ce ≤ 1 → sl ≤ 6 → Cx E (gW E d post p e s m args below meth c A ce sl) y.cls cc nL d) → meth.sig.returnType = some .int → zTx A s → (∃ x : ExceptionTableEntry, c.exceptionTable.toList = [x] ∧ (x.startPc, x.endPc, x.handlerPc, x.catchType) = hh) → G E (gW E d post p e s m args below meth c A 0 0) nL 0 (lv_args 0 as) [] M) : CMw E d y cc nL hh as M post := by
  intro sz
  refine va_MetW (cc := cc) (maxL := nL) (ret := some .int) (hh := [hh]) hy rfl ?_
  intro p e s m args below meth c s₁ B hml hv
  obtain ⟨rfl, ⟨hsz, hP, hK, hD0, hNw, hEx⟩, hTx⟩ := hv
  have hts := atoms_spec (ws := .codeWith y cc nL (some .int) [hh] :: zTb) B.pre
  have hown : s.vm.findClass y.cls = some m.cls := findClass_of_methodNamed B.named
  have hlocks := B.notSynchronized
  have htab : ∃ x : ExceptionTableEntry, c.exceptionTable.toList = [x] ∧ (x.startPc, x.endPc, x.handlerPc, x.catchType) = hh := by
    obtain ⟨m9, meth', c', hn9, h1, h2, -, -, h5, -⟩ := Cond.codeWith_spec (hts _ List.mem_cons_self)
    cases B.named.symm.trans hn9
    cases B.method.symm.trans h1
    cases (Stand.of_body B).code.symm.trans h2
    exact List.map_eq_singleton_iff.mp h5
  subst hsz
  have hD := hD0.self (sz := s.heap.size)
  have hl := lv_entry (as.map (zv E.2.2.2)) (n := nL) (by rw [zlg_len]; exact hn)
  rw [lg_entry_eq]
  rw [zlv_args] at hl
  exact body p e s m _ below meth c (va_A (zWE E M) s.heap.size) (fun ce sl h1 h2 => ⟨B.exec, B.bytes, hml, hown, fun w hw => hts w (List.mem_cons_of_mem _ hw), hK, fun q h => Or.inr h, ⟨Nat.le_refl _, Nat.le_refl _, h1, h2⟩, hlocks, hNw, hEx⟩) B.returns hTx htab _ _ [] hl hP hD va_S.rf
section WRP
variable {E : zE} {d : Nat} {post : Int32 → zM → Prop} {p : Program} {e : Env} {s : State} {m : MethodId} {args : Array Value} {below : List Frame} {meth : Method} {c : Code} {A : Nat → Prop} {own : String} {cc : ByteArray} {nL pc : Nat} {lv : List (Nat × Value)} {st : List Value} {M : zM}
theorem g_iretW {ce sl : Nat} {v : Int32} (h : Cx E (gW E d post p e s m args below meth c A ce sl) own cc nL d) (hr : meth.sig.returnType = some .int) (h1 : ce ≤ 1) (h2 : sl ≤ 6) (hd : decode cc pc = .ok (.ireturn, 1)) (k : post v M) : G E (gW E d post p e s m args below meth c A ce sl) nL pc lv [.int v] M := by
  intro ls H locs hl hP hD hS
  refine W.widen (k := 1) (n := 6) h1 h2 ?_
  exact W.iret (hlocks := h.2.2.2.2.2.2.2.2.1) h.1 h.2.1 hr (fun t ht hW => ⟨⟨v, M, rfl, k, by rw [ht]; exact hP, va_K.moved hW.alike h.2.2.2.2.2.1, hD⟩, hS.F ht⟩) hS.2.2 hd
theorem g_callVT {idx cI b n nL' d' i pc2 : Nat} {y : MethodName} {cc' : ByteArray} {rt' : Option FieldType} {x : ExceptionTableEntry} (as : List Value) (hC : ∀ ce sl, ce ≤ 1 → sl ≤ 6 → Cx E (gW E d post p e s m args below meth c A ce sl) RLw cc nL d) (hTx : zTx A s) (hw : zWV RLw idx cI y cc' nL' rt' n) (hd : decode cc pc = .ok (.invokevirtual idx, 3)) (hbc : zSH b = .inl cI) (hn : as.length = n) (hdd : d' + 1 ≤ d) (hst : (st.map fun v => v.category).sum ≤ 8)
    (hM : CMT E d' y cc' nL' rt' (.ref b :: as) M) (htab : c.exceptionTable.toList = [x]) (hx : covers x pc = true) (h13 : x.catchType = 13) (hi : i < nL) (dh : (decode cc x.handlerPc = .ok (.astore i, 2) ∧ pc2 = x.handlerPc + 2) ∨ ∃ k : Fin 4, decode cc x.handlerPc = .ok (.astore_n k, 1) ∧ (k : Nat) = i ∧ pc2 = x.handlerPc + 1)
    (kk : G E (gW E d post p e s m args below meth c A 1 6) nL pc2 [] [] M) : G E (gW E d post p e s m args below meth c A 0 0) nL pc lv (as.reverse ++ .ref b :: st) M := by
  obtain ⟨hxx, hb, hml, hown, hts, hK, hA, ⟨hRf, hRl, hRc, hRs⟩, hlk, hN, hX⟩ := hC 0 0 (by omega) (by omega)
  intro ls H locs hl hP hD hS
  obtain ⟨⟨⟨w1, w2, w3, w4, w5⟩, w6⟩, w7, w8, C, T, N, w9, w10⟩ := hw
  have he : (zWE E M)[b]? = some (E.2.2.2 b, .inr (cI, (List.range (zNf cI)).map (zFV E.2.2.2 M cI b))) := by rw [zW_get _ _ _ (zObj_lt hbc w9), zC_obj hbc]
  have hR : (zRmT d').frames + 1 ≤ (zRmT d).frames ∧ 8 + (nL' + 11) + (zRmT d').locals ≤ (zRmT d).locals := ⟨hdd, by show 8 + (nL' + 11) + 64 * d' ≤ 64 * d; omega⟩
  have es : (as.reverse ++ .ref b :: st).map (zv E.2.2.2) = (as.map (zv E.2.2.2)).reverse ++ .ref (E.2.2.2 b) :: st.map (zv E.2.2.2) := by rw [List.map_append, List.map_reverse]; rfl
  rw [es]
  refine va_throwV (N := nN) ⟨hxx, hb, hml, hown, hts⟩ (hM H.size) ⟨callB_of n hts (zGood w1) rfl rfl rfl (hts _ w2) (hts _ w7) ⟨w3, w4, w5⟩ hR, hts _ w8, hts _ w10⟩ ⟨zPreT.blind, va_recv hK hP w9 he, fun U hU hW => ⟨rfl, zPreT.mk hP hD hS hA hK hN hX hTx hU hW⟩⟩ (by rw [List.length_map]; exact hn) hl.1 (by rw [zCat]; exact hst) hd ⟨Nat.le_refl _, Nat.le_refl _⟩ htab hx (by rw [h13]; decide) (by rw [h13]; exact hts _ mt_1008) (fun a st q t hq => ?_) (fun q st₀ t L h0 hal hq hL => ?_)
  · obtain ⟨-, -, ce, h1, h2, h3⟩ := hq
    exact ⟨ce, h1, h2, h3⟩
  · obtain ⟨⟨hP1, hK1, hD1⟩, ⟨hz, hk⟩, -⟩ := hq
    rw [h0] at hz hk
    have hS1 : va_S A s.heap t.heap (locs ++ L) := ⟨Nat.le_trans hS.1 hz, fun j g1 g2 => by
      rw [hk j (Nat.lt_of_lt_of_le g1 hS.1) (fun z => g2 (zFree hD hS hA j z))]; exact hS.2.1 j g1 g2, fun j hj => by
      rcases List.mem_append.mp hj with z | z
      · exact hS.2.2 j z
      · exact zFree hD hS hA _ (hL j z)⟩
    have hD2 := hD1.weaken (fun _ _ _ ha => zFree hD hS hA _ ha)
    rcases dh with ⟨dh, rfl⟩ | ⟨k, dh, hk4, rfl⟩
    · exact lv_astore hxx hb dh hl hi rfl (fun ls' hl' => kk ls' t.heap _ (lv_sub hl' [] rfl) hP1 hD2 hS1)
    · exact lv_astore_n hxx hb dh hk4 hl hi rfl (fun ls' hl' => kk ls' t.heap _ (lv_sub hl' [] rfl) hP1 hD2 hS1)
end WRP
section SWR
variable {p : Program} {l : Launch} {e : Env} {R : Room} {s : State} {m : MethodId} {args : Array Value} {below : List Frame} {meth : Method} {c : Code} {H : Heap} {locs : List Loc} {cells slots : Nat}
theorem va_runSW {cc bytes : ByteArray} {nL maxL mc ms n index : Nat} {rt : Option FieldType} {ws Ts : List Cond} {hh : List (Nat × Nat × Nat × Nat)} {rm : Room} {Pc : Array Value → State → Prop} {Qc : Array Value → State → Outcome → State → Prop} {free : Nat → Prop} {own : String} {y : MethodName} {As rest : List Value} {g : JFrame}
    (S : CallFix p m c cc nL s args Ts own) (hM : Met l y ws rm Pc Qc mc ms free) (hrc : rm.cells = mc) (hrs : rm.slots = ms) (hfr : rm.frames + 1 ≤ R.frames) (hlo : 8 + (maxL + 11) + rm.locals ≤ R.locals) (hws : ∀ w ∈ ws, ∀ (a' : Array Value) (U : State), s.WarmedH U.vm → w.before a' U = true) (hcw : Cond.codeWith y bytes maxL rt hh ∈ ws)
    (hcode : (Cond.codeWith y bytes maxL rt hh).before args s = true) (hini : (Cond.initialized y.cls).before args s = true) (hy : y.cls ≠ "java/lang/invoke/MethodHandle" ∧ y.cls ≠ "java/lang/invoke/VarHandle") (hlen : ∀ sig, parseMethodDescriptor y.desc = some sig → n = sig.parameters.length) (hl : (Cond.methodLink own index y).before args s = true) (hstt : (Cond.static y).before args s = true)
    (hp : PreS s H Pc As) (hg : g.method = m) (hn : As.length = n) (hsize : g.locals.size = nL) (hstack : g.stack = As.reverse ++ rest) (hW : 2 * g.monitorRoom + (rest.map fun v => v.category).sum ≤ 8) (hdg : decode cc g.pc = .ok (.invokestatic index, 3)) (hf : cells + mc ≤ R.cells ∧ slots + ms ≤ R.slots) :
    va_Run p l e R s m args below meth c H locs cells slots mc ms g rest (Qc As.toArray) free := by
  have hK : Back l R p e below s args y 3 8 (PreOf R mc ms Pc) (PostOf Qc mc ms free) := va_backW (hh := hh) (bytes := bytes) (maxL := maxL) (ret := rt) hM hp.1 hrc hrs hfr hlo hws hcw (fun a' U hW => word_at hW (Or.inl (by first | rfl | simp [Cond.onTables, Cond.keeps, Cond.steady])) hini)
  obtain ⟨hx, hb, hml, ho, -⟩ := S
  intro T hT X
  obtain ⟨mk, methM, cM, hnamed, hmethM, -, -, -, -, -, -, hsigM⟩ := Cond.codeWith_spec hcode
  have hstatic : methM.isStatic = true := Cond.static_spec hnamed hmethM hstt
  obtain ⟨kP, hkP, -⟩ := className_of_methodNamed hnamed
  have hinitP : kP.init = .initialized := Cond.initialized_spec (findClass_of_methodNamed hnamed) hkP hini
  obtain ⟨vm₁, X₁, hstep₁⟩ := X.invokestatic hx ho hl hnamed hmethM hstatic hkP hinitP hy (g := g) hg (argsL := As) (rest := rest) (hn.trans (hlen _ hsigM)) hstack (by rw [hb]; exact hdg)
  obtain ⟨v, ⟨U', l2, c2, s2⟩, X', ⟨g', mk', t, L, e1, e2, hq, h1, hL, h2, h3⟩, hsteps⟩ := hK m meth c ⟨T.setVm vm₁, locs, cells, slots⟩ { g with stack := rest } (.invokestatic index) mk As.toArray X₁ hg (hsize.trans hml.symm) (by rw [hb]; exact hdg) hW (X₁.named hnamed) ⟨hf.1, hf.2, hp.2 (T.setVm vm₁) hT X₁.warmed⟩
  dsimp only [Pt.U, Pt.locs, Pt.cells, Pt.slots] at X' e1 e2 h1 h2 h3 hsteps
  subst h1; subst h2; subst h3
  exact ⟨v, (T.setVm vm₁).calling g' mk' As.toArray, t, U', L, hT, X', hL, e1, e2, hq, fun target h => hstep₁ _ fun acts => by rw [doInvoke_state]; exact hsteps.trans h⟩
end SWR
theorem zGoodW {y : MethodName} {cc : ByteArray} {nL : Nat} {rt : Option FieldType} {hh : List (Nat × Nat × Nat × Nat)} (h : Cond.codeWith y cc nL rt hh ∈ zTb) : GoodIn zTb (.codeWith y cc nL rt hh :: zTb) := by
  intro w hw
  have hw : w ∈ zTb := (List.mem_cons.mp hw).elim (fun z => by rw [z]; exact h) id
  exact ⟨hw, good_of_word (List.mem_filter.mp hw).2⟩
theorem g_callSw {E : zE} {p : Program} {e : Env} {R : Room} {s : State} {m : MethodId} {args : Array Value} {below : List Frame} {meth : Method} {c : Code} {Q : State → Prop} {A : Nat → Prop} {ce sl : Nat} {own : String} {cc : ByteArray} {nL d pc : Nat} {lv : List (Nat × Value)} {st : List Value} {M : zM}
    {idx n nL' d' : Nat} {y : MethodName} {cc' : ByteArray} {hh : Nat × Nat × Nat × Nat} (as : List Value) {post : Int32 → zM → Prop} (h : Cx E (p, e, R, s, m, args, below, meth, c, Q, A, ce, sl) own cc nL d) (hTx : zTx A s) (w1 : Cond.codeWith y cc' nL' (some .int) [hh] ∈ zTb) (w2 : Cond.initialized y.cls ∈ zTb) (w7 : Cond.methodLink own idx y ∈ zTb) (w8 : Cond.static y ∈ zTb)
    (w3 : y.cls ≠ "java/lang/invoke/MethodHandle" ∧ y.cls ≠ "java/lang/invoke/VarHandle" ∧ (parseMethodDescriptor y.desc).map (fun d => d.parameters.length) = some n) (w6 : nL' ≤ 40) (hd : decode cc pc = .ok (.invokestatic idx, 3)) (hn : as.length = n) (hdd : d' + 1 ≤ d) (hst : (st.map fun v => v.category).sum ≤ 8) (hf : ce + 1 ≤ R.cells ∧ sl + 6 ≤ R.slots) (hM : CMw E d' y cc' nL' hh as M post)
    (kk : ∀ (r : Int32) (N : zM), post r N → G E (p, e, R, s, m, args, below, meth, c, Q, A, ce + 1, sl + 6) nL (pc + 3) lv (.int r :: st) N) : G E (p, e, R, s, m, args, below, meth, c, Q, A, ce, sl) nL pc lv (as.reverse ++ st) M := by
  obtain ⟨hx, hb, hml, hown, hts, hK, hA, ⟨hRf, hRl, hRc, hRs⟩, hlk, hN, hX⟩ := h
  intro ls H locs hl hP hD hS
  have hlo : 8 + (nL' + 11) + 64 * d' ≤ R.locals := by omega
  refine va_calli (va_runSW (hh := [hh]) (bytes := cc') (maxL := nL') (rt := some .int) (n := n) (As := as.map (zv E.2.2.2)) (rest := st.map (zv E.2.2.2)) ⟨hx, hb, hml, hown, hts⟩ (hM H.size) rfl rfl (Nat.le_trans hdd hRf) hlo (pay_in hts (zGoodW w1)) List.mem_cons_self (hts _ w1) (hts _ w2) ⟨w3.1, w3.2.1⟩ (fun sig h => ?_) (hts _ w7) (hts _ w8) ⟨zPreT.blind, fun U hU hW => ⟨rfl, zPreT.mk hP hD hS hA hK hN hX hTx hU hW⟩⟩ rfl (by rw [List.length_map]; exact hn) hl.1 (by show List.map _ (as.reverse ++ st) = _; rw [List.map_append, List.map_reverse]) (lv_room (by rw [zCat]; exact hst)) hd hf) hS (fun q _ hq => zFree hD hS hA q hq) (zFree hD hS hA) (fun r u t H1 locs1 ht hvm hw hB hz1 hk1 hS1 => ?_)
  · have h2 := w3.2.2
    rw [h] at h2
    exact (Option.some.inj h2).symm
  · obtain ⟨hP1, hK1, hD1⟩ := hB
    rw [ht] at hP1
    exact kk r u hw ls H1 locs1 hl hP1 (hD1.weaken (fun _ _ _ ha => zFree hD hS hA _ ha)) hS1
