/-! A ROAD THAT THROWS: the exception is made, leaves its method, and is caught in the caller -/
theorem stepThrowing_catchCold {e : Env} {s : State} {a : Addr} {f : JFrame} {r : List Frame} {meth : Method} {cd : Code} {x : ExceptionTableEntry} {c : ClassId} {cell : Cell} {vm' : Vm}
    (hm : s.vm.method? f.method = some meth) (hc : meth.code = some cd) (htab : cd.exceptionTable.toList = [x]) (hx : covers x f.pc = true) (h0 : x.catchType ≠ 0)
    (hg : (Jvm.resolveClass f.method.cls x.catchType).Gives e.toSetting s.vm (.ok c) vm') (hsz : vm'.classes.size ≤ s.vm.classes.size)
    (hcell : s.heap[a]? = some cell) (hobj : ∀ k, cell.vm ≠ .statics k) (hk : ∃ k, vm'.classes[cell.cls]? = some k) (hcl : ∃ k, vm'.classes[c]? = some k) (hfit : vm'.assignable cell.cls c = true) :
    (stepThrowing e s a (.java f :: r)).Is ((s.setVm vm').setFrames (.java { f with pc := x.handlerPc, stack := [.ref a] } :: r)) [] := by
  simp only [stepThrowing, searchFrame, vmDo]
  generalize hr : Sem.go _ e false [] s = res
  obtain ⟨ha, ht⟩ := hg.op (op := VmOp.resolveClass f.method.cls x.catchType) rfl
  simp only [covers] at hx
  obtain ⟨as, rfl, hacts⟩ := Sem.eq_ok_of hr (a := Handler.found x.handlerPc) (s' := s.setVm vm') (acts' := [])
    (by simp [findHandler, hm, hc, htab, findHandler.go, hx, h0, ha, ht, hsz, hcell, hobj, hk, hcl, hfit, VmOp.dirties, VmOp.acts])
  exact ⟨rfl, hacts⟩
theorem caughtCold {tb : Tables} {e : Env} {s target : State} {g : JFrame} {c0 : Code} {below : List Frame} {a : Addr} (h : At s g.method c0 below) {x : ExceptionTableEntry} {meth : Method} {cd : Code} {c : ClassId} {cell : Cell} {vm' : Vm}
    (hm : s.vm.method? g.method = some meth) (hc : meth.code = some cd) (htab : cd.exceptionTable.toList = [x]) (hx : covers x g.pc = true) (h0 : x.catchType ≠ 0)
    (hg : (Jvm.resolveClass g.method.cls x.catchType).Gives e.toSetting s.vm (.ok c) vm') (hsz : vm'.classes.size ≤ s.vm.classes.size)
    (hcell : s.heap[a]? = some cell) (hobj : ∀ k, cell.vm ≠ .statics k) (hk : ∃ k, vm'.classes[cell.cls]? = some k) (hcl : ∃ k, vm'.classes[c]? = some k) (hfit : vm'.assignable cell.cls c = true)
    (hrest : Steps tb e below ((s.setVm vm').setTop { g with pc := x.handlerPc, stack := [.ref a] }) target) :
    Steps tb e below ((s.setTop g).pushFrame (.throwing a)) target := by
  obtain ⟨hgo, hw⟩ := h.throwing a
  refine Steps.head hgo hw ?_
  rw [stepThread_throwing (frames_entered h.top _),
    (stepThrowing_catchCold (s := (s.setTop g).pushFrame (.throwing a)) (meth := meth) (cd := cd) (x := x) (c := c) (cell := cell) (vm' := vm') (by rw [Stand.throwing_vm]; exact hm) hc htab hx h0 (by rw [Stand.throwing_vm]; exact hg) (by rw [Stand.throwing_vm]; exact hsz) (by rw [Stand.throwing_heap]; exact hcell) hobj hk hcl hfit).1]
  obtain ⟨g₀, hg0⟩ := Option.isSome_iff_exists.mp h.top
  obtain ⟨r, hr⟩ := State.topJava?_eq_some.mp hg0
  have hr' : (s.setVm vm').frames = .java g₀ :: r := hr
  rw [State.setTop_of_frames _ hr'] at hrest
  have e1 : ((((s.setTop g).pushFrame (.throwing a)).setVm vm').setFrames (.java { g with pc := x.handlerPc, stack := [.ref a] } :: s.frames.tail)) = (s.setVm vm').setFrames (.java { g with pc := x.handlerPc, stack := [.ref a] } :: r) := by
    rw [State.pushFrame, State.setTop_of_frames _ hr, State.setFrames_setFrames, hr]
    exact State.setFrames_setFrames (s.setVm vm') _ _
  rw [e1]
  exact hrest
/-- a contract of a method that throws -/
def FrTh (st t : State) (L : List Loc) (k n : Nat) : Prop := st.WarmedH t.vm ∧ st.sameButNew ({ t with vm := st.vm } : State) L k n
def MetT (l : Launch) (y : MethodName) (ws : List Cond) (rm : Room) (Pc : Array Value → State → Prop) (Qt : Array Value → State → Nat → State → Prop) (mc ms : Nat) (free : Nat → Prop) : Prop :=
  MetFree l y (headSpec ws rm) Pc (fun _ _ _ _ _ => True) (fun a st o t => ∃ x, o = .threw x ∧ Qt a st x t ∧ ∃ L, FrTh st t L mc ms ∧ ∀ q ∈ L, free q.base)
def MQT (below : List Frame) (Qt : Array Value → State → Nat → State → Prop) (a : Array Value) (s : State) (mc ms : Nat) (free : Nat → Prop) : State → Prop := fun t =>
  ∃ x, t.status = .running ∧ Ended t below (.threw x) ∧ Qt a s x t ∧ ∃ L, FrTh s t L mc ms ∧ ∀ q ∈ L, free q.base
theorem MetT.ofW {l : Launch} {y : MethodName} {ws ws' : List Cond} {rm : Room} {Pc : Array Value → State → Prop} {Qt : Array Value → State → Nat → State → Prop} {mc ms : Nat} {free : Nat → Prop} {cc : ByteArray} {maxL : Nat} {rt : Option FieldType}
    (hy : plainName y.cls = true) (hw : ws = Cond.code y cc maxL rt :: ws')
    (body : ∀ p e s m args below meth c s₁, BodyLoose p l y (headSpec ws rm) cc maxL rt e s m args below meth c s₁ → c.maxLocals = maxL → c.exceptionTable.isEmpty = true → Pc args s →
      W p l e (headSpec ws rm).room s m args below meth c s.heap [] 0 0 (MQT below Qt args s mc ms free) (entryFrame m args maxL)) : MetT l y ws rm Pc Qt mc ms free := by
  refine MetFree.of_bodyS (code := cc) (maxLocals := maxL) (ret := rt) hy ?_ ?_
  · intro args s m h hn
    obtain ⟨meth, c, h1, h2, h3, h4, h5, h6, -, -⟩ := Cond.code_spec hn (atoms_spec (ws := ws) h _ (by rw [hw]; exact List.mem_cons_self))
    exact ⟨meth, c, h1, h2, h3, h4, h5, h6⟩
  · intro p e s m args below meth c s₁ B hml hP _
    have hh0 : s₁.heap = s.heap := by rw [B.state]; rfl
    have hno := B.noHandlers (atoms_spec (ws := ws) B.pre _ (by rw [hw]; exact List.mem_cons_self))
    obtain ⟨t, a1, x, b1, b2, b3⟩ := body p e s m args below meth c s₁ B hml hno hP s₁ hh0 (Stand.of_body B)
    exact ⟨t, .threw x, a1, b1, b2, x, rfl, b3⟩
section THV
variable {p : Program} {l : Launch} {e : Env} {R : Room} {s : State} {m : MethodId} {args : Array Value} {below : List Frame} {meth : Method} {c : Code} {H : Heap} {locs : List Loc} {cells slots : Nat} {Q : State → Prop}
/-- the exception that is caught here: what the handler's row asks -/
theorem catchStep {T : State} (X : Stand p l e R s m args below meth c T locs cells slots) {own N : String} (hown : s.vm.findClass own = some m.cls) {x : ExceptionTableEntry} (htab : c.exceptionTable.toList = [x]) {g : JFrame} (hg : g.method = m) (hx : covers x g.pc = true) (h0 : x.catchType ≠ 0)
    (hlink : (Cond.classLink own x.catchType N).before args s = true) {a : Nat} {ce : Cell} (hce : T.heap[a]? = some ce) (hvm : ce.vm = .none) (hcls : s.vm.findClass N = some ce.cls) :
    ∃ vm', Stand p l e R s m args below meth c (T.setVm vm') locs cells slots ∧ ∀ target, Steps p.tables e below ((T.setVm vm').setTop { g with pc := x.handlerPc, stack := [.ref a] }) target → Steps p.tables e below ((T.setTop g).pushFrame (.throwing a)) target := by
  subst hg
  have hpl : e.platform.magicAccessors = ({} : Platform).magicAccessors := by rw [X.admits.platform]
  obtain ⟨cN, hfN, hcl⟩ := Cond.classLink_spec hown hlink e.platform hpl
  cases hcls.symm.trans hfN
  obtain ⟨hg₁, hwarm₁, hready₁⟩ := State.classEntry (e := e) X.warmed hcl
  have hal : T.vm.Alike (T.vm.noted g.method.cls x.catchType (.cls ce.cls)) := X.warmed.alike.symm.trans hwarm₁.alike
  have hkN : ∃ k, (T.vm.noted g.method.cls x.catchType (.cls ce.cls)).classes[ce.cls]? = some k := by
    obtain ⟨k, hk, -⟩ := Vm.findClass_spec hcls
    obtain ⟨k1, hk1, -⟩ := hwarm₁.alike.2.2 _ _ hk
    exact ⟨k1, hk1⟩
  refine ⟨_, X.noted hwarm₁, fun target hrest => ?_⟩
  exact caughtCold X.here X.method' X.code htab hx h0 hg₁ hal.size_le hce (fun k h => by rw [hvm] at h; cases h) hkN hkN (va_asg _ _) hrest
theorem va_throwV {cc bytes : ByteArray} {nL maxL mc ms n index pc : Nat} {rt : Option FieldType} {ws Ts : List Cond} {rm : Room} {Pc : Array Value → State → Prop} {Qt : Array Value → State → Nat → State → Prop} {free : Nat → Prop} {own C N : String} {y : MethodName} {b : Nat} {As rest : List Value} {ls : Array Slot} {x : ExceptionTableEntry}
    (S : CallFix p m c cc nL s args Ts own) (hM : MetT l y ws rm Pc Qt mc ms free) (cw : CallW R s args own C index y bytes maxL rt ws rm mc ms n) (hp : PreV s H C b Pc As)
    (hn : As.length = n) (hsize : ls.size = nL) (hW : (rest.map fun v => v.category).sum ≤ 8) (hdg : decode cc pc = .ok (.invokevirtual index, 3)) (hf : cells + mc ≤ R.cells ∧ slots + ms ≤ R.slots)
    (htab : c.exceptionTable.toList = [x]) (hx : covers x pc = true) (h0 : x.catchType ≠ 0) (hlink : (Cond.classLink own x.catchType N).before args s = true)
    (hQ : ∀ a st q t, Qt a st q t → ∃ ce, t.heap[q]? = some ce ∧ ce.vm = .none ∧ st.vm.findClass N = some ce.cls)
    (kk : ∀ (q : Nat) (st₀ t : State) (L : List Loc), st₀.heap = H → s.vm.Alike t.vm → Qt (Value.ref b :: As).toArray st₀ q t → (∀ y ∈ L, free y.base) → W p l e R s m args below meth c t.heap (locs ++ L) (cells + mc) (slots + ms) Q (F0 m x.handlerPc ls [.ref q])) :
    W p l e R s m args below meth c H locs cells slots Q (F0 m pc ls (As.reverse ++ .ref b :: rest)) := by
  obtain ⟨⟨hrc, hrs, hfr, hlo, hws, hcw, hcode, hini, hy, hlen, hl⟩, hinst, hsel⟩ := cw
  obtain ⟨hexec, hb, hml, hown, -⟩ := S
  obtain ⟨hblind, ⟨cellB, hcB, hoB, hclB⟩, hPc⟩ := hp
  intro T hT X
  obtain ⟨mk, methM, hnamed, hmethM, hstM, habM⟩ := Cond.instanceMethod_spec hinst
  obtain ⟨methM', cM, hmethM', hcodeM, -, hlocalsM, -, -, -, hsigM⟩ := Cond.code_spec hnamed hcode
  cases hmethM.symm.trans hmethM'
  obtain ⟨c2, r2, m2, q1, q2, q3, q4, kP, hkP, hkPi⟩ := Cond.selects_spec hsel
  cases hclB.symm.trans q1
  cases (State.methodFound?_of_named hnamed hy).symm.trans q2
  cases hnamed.symm.trans q3
  have hselP : selectMethod e.platform s.vm cellB.cls mk = .method mk := by rw [Launch.admits_selectMethod X.admits]; exact q4
  obtain ⟨vm₁, X₁, hstep₁⟩ := X.invokevirtual hexec hown hl hnamed hmethM hstM hkP hkPi hy (a := b) (cell := cellB) (by rw [hT]; exact hcB)
    (fun z h => by rw [h] at hoB; cases hoB) hselP hmethM habM hkP hkPi (g := F0 m pc ls (As.reverse ++ .ref b :: rest)) rfl (argsL := As) (rest := rest) (hn.trans (hlen _ hsigM)) rfl (by rw [hb]; exact hdg)
  generalize hU : T.setVm vm₁ = U at X₁ hstep₁
  have hUh : U.heap = H := by rw [← hU]; exact hT
  have h : At U (F0 m pc ls rest).method c below := X₁.here
  have hnU := X₁.named hnamed
  have hmU : U.vm.method? mk = some methM := by rw [X₁.warmed.alike.method?]; exact hmethM
  obtain ⟨kY, hkY, -⟩ := className_of_methodNamed hnU
  have hinitY : kY.init = .initialized := Cond.initialized_spec (args := args) (findClass_of_methodNamed hnU) hkY (word_at X₁.warmed (Or.inl (by first | rfl | simp [Cond.onTables, Cond.keeps, Cond.steady])) hini)
  have hpre : (headSpec ws rm).pre.before (Value.ref b :: As).toArray U = true := atoms_intro fun w hw => hws w hw _ _ X₁.warmed
  have happ : (headSpec ws rm).appliesLoose y e.platform (U.calling (F0 m pc ls rest) mk (Value.ref b :: As).toArray) = true :=
    Spec.appliesLoose_calling (g := F0 m pc ls rest) h (by rw [hb]; exact hdg) hnU hkY hinitY
      (X₁.room_calling (g := F0 m pc ls rest) (R' := rm) (hsize.trans hml.symm) hmU hcodeM hfr (by rw [hlocalsM]; show 2 * 0 + (rest.map fun v => v.category).sum + (maxL + 11) + rm.locals ≤ R.locals; omega) (by rw [hrc]; exact hf.1) (by rw [hrs]; exact hf.2)) hpre
  obtain ⟨mid, hmid⟩ := h.above
  have hfr0 : (U.setTop (F0 m pc ls rest)).frames = (.java (F0 m pc ls rest) :: mid) ++ below := by rw [State.frames_setTop' _ h.top, hmid]; rfl
  obtain ⟨o, s₂, hsteps, -, hend, hq⟩ := Steps.callFree hM p X.admits X.cas X.clock (acts := []) hfr0 happ (hblind _ _ _ _ (hPc U hUh X₁.warmed)) trivial
  have hq : ∃ x, o = .threw x ∧ Qt (Value.ref b :: As).toArray (U.calling (F0 m pc ls rest) mk (Value.ref b :: As).toArray) x s₂ ∧ ∃ L, FrTh (U.calling (F0 m pc ls rest) mk (Value.ref b :: As).toArray) s₂ L mc ms ∧ ∀ q ∈ L, free q.base := hq
  obtain ⟨q, rfl, hqt, L, ⟨hW₂, e2, q2', q3', q4', q5', q6'⟩, hLf⟩ := hq
  rw [State.frames_setTop' _ h.top] at hend
  have e3 : s₂ = ({ (U.calling (F0 m pc ls rest) mk (Value.ref b :: As).toArray).setFrames s₂.frames with heap := s₂.heap, slotsUsed := s₂.slotsUsed } : State).setVm s₂.vm := by
    have : s₂ = ({ s₂ with vm := (U.calling (F0 m pc ls rest) mk (Value.ref b :: As).toArray).vm } : State).setVm s₂.vm := rfl
    rw [e2] at this
    exact this
  have hf₂ : s₂.frames = .throwing q :: .java (F0 m pc ls rest) :: U.frames.tail := hend
  have hW' : U.WarmedH s₂.vm := hW₂
  obtain ⟨g₀, hg0⟩ := Option.isSome_iff_exists.mp h.top
  obtain ⟨r, hr⟩ := State.topJava?_eq_some.mp hg0
  have hr' : (({ U with heap := s₂.heap, slotsUsed := s₂.slotsUsed } : State).setVm s₂.vm).frames = .java g₀ :: r := hr
  have hs₂ : s₂ = ((({ U with heap := s₂.heap, slotsUsed := s₂.slotsUsed } : State).setVm s₂.vm).setTop (F0 m pc ls rest)).pushFrame (.throwing q) := by
    refine e3.trans ?_
    rw [hf₂, State.calling_eq h.top, State.setFrames_setFrames, State.pushFrame, State.frames_setTop _ hr', State.setTop_of_frames _ hr', State.setFrames_setFrames, hr]
    rfl
  have hsame : U.sameButNew ({ U with heap := s₂.heap, slotsUsed := s₂.slotsUsed } : State) L mc ms := by
    refine ⟨?_, q2', q3', q4', q5', q6'⟩
    obtain ⟨t, ht, -⟩ := State.frames_cons hr
    show ({ U with heap := s₂.heap, slotsUsed := s₂.slotsUsed } : State) = { U.setFrames U.frames with heap := s₂.heap, slotsUsed := s₂.slotsUsed }
    rw [State.setFrames_self ht]
  have X₂ : Stand p l e R s m args below meth c (({ U with heap := s₂.heap, slotsUsed := s₂.slotsUsed } : State).setVm s₂.vm) (locs ++ L) (cells + mc) (slots + ms) :=
    ⟨X₁.admits, X₁.cas, X₁.clock, X₁.frames, X₁.room, X₁.hears, X₁.method, X₁.code, (X₁.here.setHeapUsed s₂.heap s₂.slotsUsed).setVm hW'.alike, X₁.tail, State.WarmedH.trans X₁.warmed hW', X₁.limits, X₁.bytes, X₁.same.trans (hsame.setVm s.vm)⟩
  obtain ⟨ce, hce, hcv, hcc⟩ := hQ _ _ _ _ hqt
  have hcc' : s.vm.findClass N = some ce.cls := by
    have : U.vm.findClass N = some ce.cls := hcc
    rw [X₁.warmed.alike.findClass] at this
    exact this
  obtain ⟨vm₂, X₃, st₃⟩ := catchStep X₂ hown htab (g := F0 m pc ls rest) rfl hx h0 hlink (a := q) (ce := ce) hce hcv hcc'
  obtain ⟨t, a1, b1⟩ := kk q (U.calling (F0 m pc ls rest) mk (Value.ref b :: As).toArray) s₂ L hUh (X₁.warmed.alike.trans hW'.alike) hqt hLf ((({ U with heap := s₂.heap, slotsUsed := s₂.slotsUsed } : State).setVm s₂.vm).setVm vm₂) rfl X₃
  refine ⟨t, ?_, b1⟩
  have hgo := st₃ t a1
  rw [← hs₂] at hgo
  exact hstep₁ _ fun acts => by rw [doInvoke_state]; exact hsteps.trans hgo
end THV
