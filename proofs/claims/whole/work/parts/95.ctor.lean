/-! CONSTRUCTORS: a world that grows -/
abbrev kE : Type := Launch × va_G × (Nat → ClassId) × Nat
abbrev zU : Type := Program × Env × Room × State × MethodId × Array Value × List Frame × Method × Code × (State → Prop) × (Nat → Prop)
def Pl (pa : Nat) (A : Nat → Prop) (U : State) : Prop := va_Z "LostByState$Rule" "PLAIN" "[I" (.ref pa) A U U.heap ∧ va_X pa 9 (fun j => zPlain.getD j 0) U U.heap ∧ pa < U.heap.size ∧ ¬ A pa
theorem Pl.next {pa : Nat} {A A' : Nat → Prop} {s U : State} {H : Heap} {locs : List Loc} (h : Pl pa A s) (hS : va_S A s.heap H locs) (hAA : ∀ q, A' q → A q) (hU : U.heap = H) (hW : s.WarmedH U.vm) : Pl pa A' U := by
  have hq : ∀ a : Nat, a < s.heap.size → ¬ A a → U.heap[a]? = s.heap[a]? := fun a h1 h2 => by rw [hU]; exact hS.2.1 a h1 h2
  obtain ⟨h1, h2, h21, h22⟩ := h
  exact ⟨((h1.kept hq).narrow hAA).moved hW.alike, (h2.kept (hq _ h21 h22)).moved hW.alike, by rw [hU]; exact Nat.lt_of_lt_of_le h21 hS.1, fun z => h22 (hAA _ z)⟩
theorem Pl.same {pa : Nat} {A : Nat → Prop} {u U : State} (h : Pl pa A u) (hv : u.vm = U.vm) (hh : u.heap = U.heap) : Pl pa A U := by
  have ha : u.vm.Alike U.vm := by rw [hv]; exact Vm.Alike.refl _
  obtain ⟨h1, h2, h21, h22⟩ := h
  rw [hh] at h1 h2 h21
  exact ⟨h1.moved ha, h2.moved ha, h21, h22⟩
def nWh : String := "LostByState$Whereabouts"
def Kx (E : kE) (Γ : zU) (own : String) (cc : ByteArray) (nL d mc ms : Nat) : Prop := match Γ with
  | (p, e, R, s, m, args, below, meth, c, Q, A) => p.tables.exec = Jvm.exec ∧ c.code = cc ∧ c.maxLocals = nL ∧ s.vm.findClass own = some m.cls ∧ (∀ w ∈ zTb, w.before args s = true) ∧ va_K E.2.1 vwCl (zTy E.2.2.1) s ∧ (∀ q, s.heap.size ≤ q → A q) ∧ (d ≤ R.frames ∧ 64 * d ≤ R.locals ∧ mc ≤ R.cells ∧ ms ≤ R.slots) ∧ meth.locks = false ∧ (zNw s ∧ Pl E.2.2.2 A s ∧ va_AO nWh s)
def Kin (Γ : zU) : Prop := match Γ with
  | (p, e, R, s, m, args, below, meth, c, Q, A) => meth.name = "<init>"
def GC (E : kE) (Γ : zU) (ce sl nL pc : Nat) (lv : List (Nat × Value)) (st : List Value) (ws : va_W) : Prop := match Γ with
  | (p, e, R, s, m, args, below, meth, c, Q, A) => ∀ (ls : Array Slot) (H : Heap) (locs : List Loc), lv_has ls nL lv → va_P E.2.1 vwCl ws H → va_D A ws → va_S A s.heap H locs → W p E.1 e R s m args below meth c H locs ce sl Q (F0 m pc ls st)
theorem kget {ls : Array Slot} {nL i : Nat} {lv : List (Nat × Value)} {v : Value} (h : lv_has ls nL lv) (hg : zget lv i = some v) : ls[i]? = some (.val v) := by
  unfold zget at hg
  cases hf : lv.find? (fun q => q.1 == i) with
  | none => rw [hf] at hg; cases hg
  | some q =>
    rw [hf] at hg
    cases hg
    have h1 : q.1 = i := by simpa using List.find?_some hf
    have h2 := h.2.2 q (List.mem_of_find?_eq_some hf)
    rw [← h1]
    exact h2
section KR
variable {E : kE} {Γ : zU} {own : String} {cc : ByteArray} {ce sl nL d mc ms pc : Nat} {lv : List (Nat × Value)} {st : List Value} {ws : va_W}
theorem k_aload {j : Fin 4} {i x : Nat} (h : Kx E Γ own cc nL d mc ms) (hd : decode cc pc = .ok (.aload_n j, 1)) (hj : (j : Nat) = i) (hg : zget lv i = some (.ref x)) (k : GC E Γ ce sl nL (pc + 1) lv (.ref x :: st) ws) : GC E Γ ce sl nL pc lv st ws := by
  obtain ⟨p, e, R, s, m, args, below, meth, c, Q, A⟩ := Γ
  intro ls H locs hl hP hD hS
  exact lv_aload_n h.1 h.2.1 hd hj (kget hl hg) (k ls H locs hl hP hD hS)
theorem k_iload {j : Fin 4} {i : Nat} {x : Int32} (h : Kx E Γ own cc nL d mc ms) (hd : decode cc pc = .ok (.iload_n j, 1)) (hj : (j : Nat) = i) (hg : zget lv i = some (.int x)) (k : GC E Γ ce sl nL (pc + 1) lv (.int x :: st) ws) : GC E Γ ce sl nL pc lv st ws := by
  obtain ⟨p, e, R, s, m, args, below, meth, c, Q, A⟩ := Γ
  intro ls H locs hl hP hD hS
  exact lv_iload_n h.1 h.2.1 hd hj (kget hl hg) (k ls H locs hl hP hD hS)
theorem k_istore {j : Fin 4} {i : Nat} {x : Int32} (h : Kx E Γ own cc nL d mc ms) (hd : decode cc pc = .ok (.istore_n j, 1)) (hj : (j : Nat) = i) (hn : i < nL) {lv2 : List (Nat × Value)} (hl2 : zput lv i (.int x) = lv2) (k : GC E Γ ce sl nL (pc + 1) lv2 st ws) : GC E Γ ce sl nL pc lv (.int x :: st) ws := by
  obtain ⟨p, e, R, s, m, args, below, meth, c, Q, A⟩ := Γ
  intro ls H locs hl hP hD hS
  exact lv_istore_n h.1 h.2.1 hd hj hl hn hl2 (fun ls hl => (k ls H locs hl hP hD hS))
theorem k_astore {j : Fin 4} {i x : Nat} (h : Kx E Γ own cc nL d mc ms) (hd : decode cc pc = .ok (.astore_n j, 1)) (hj : (j : Nat) = i) (hn : i < nL) {lv2 : List (Nat × Value)} (hl2 : zput lv i (.ref x) = lv2) (k : GC E Γ ce sl nL (pc + 1) lv2 st ws) : GC E Γ ce sl nL pc lv (.ref x :: st) ws := by
  obtain ⟨p, e, R, s, m, args, below, meth, c, Q, A⟩ := Γ
  intro ls H locs hl hP hD hS
  exact lv_astore_n h.1 h.2.1 hd hj hl hn hl2 (fun ls hl => (k ls H locs hl hP hD hS))
theorem k_istoreW {i : Nat} {x : Int32} (h : Kx E Γ own cc nL d mc ms) (hd : decode cc pc = .ok (.istore i, 2)) (hn : i < nL) {lv2 : List (Nat × Value)} (hl2 : zput lv i (.int x) = lv2) (k : GC E Γ ce sl nL (pc + 2) lv2 st ws) : GC E Γ ce sl nL pc lv (.int x :: st) ws := by
  obtain ⟨p, e, R, s, m, args, below, meth, c, Q, A⟩ := Γ
  intro ls H locs hl hP hD hS
  exact lv_istore h.1 h.2.1 hd hl hn hl2 (fun ls hl => (k ls H locs hl hP hD hS))
theorem k_iconst {n : Int} {v : Int32} (h : Kx E Γ own cc nL d mc ms) (hd : decode cc pc = .ok (.iconst n, 1)) (hv : Int32.ofInt n = v) (k : GC E Γ ce sl nL (pc + 1) lv (.int v :: st) ws) : GC E Γ ce sl nL pc lv st ws := by
  obtain ⟨p, e, R, s, m, args, below, meth, c, Q, A⟩ := Γ
  intro ls H locs hl hP hD hS
  exact lv_iconst h.1 h.2.1 hd hv (k ls H locs hl hP hD hS)
theorem k_bipush {n : Int} {v : Int32} (h : Kx E Γ own cc nL d mc ms) (hd : decode cc pc = .ok (.bipush n, 2)) (hv : (Int8.ofInt n).toInt32 = v) (k : GC E Γ ce sl nL (pc + 2) lv (.int v :: st) ws) : GC E Γ ce sl nL pc lv st ws := by
  obtain ⟨p, e, R, s, m, args, below, meth, c, Q, A⟩ := Γ
  intro ls H locs hl hP hD hS
  exact lv_bipush h.1 h.2.1 hd hv (k ls H locs hl hP hD hS)
theorem k_sipush {n : Int} {v : Int32} (h : Kx E Γ own cc nL d mc ms) (hd : decode cc pc = .ok (.sipush n, 3)) (hv : (Int16.ofInt n).toInt32 = v) (k : GC E Γ ce sl nL (pc + 3) lv (.int v :: st) ws) : GC E Γ ce sl nL pc lv st ws := by
  obtain ⟨p, e, R, s, m, args, below, meth, c, Q, A⟩ := Γ
  intro ls H locs hl hP hD hS
  exact lv_sipush h.1 h.2.1 hd hv (k ls H locs hl hP hD hS)
theorem k_iinc {i : Nat} {n : Int} {x v : Int32} (h : Kx E Γ own cc nL d mc ms) (hd : decode cc pc = .ok (.iinc i n, 3)) (hg : zget lv i = some (.int x)) (hv : x + Int32.ofInt n = v) (hn : i < nL) {lv2 : List (Nat × Value)} (hl2 : zput lv i (.int v) = lv2) (k : GC E Γ ce sl nL (pc + 3) lv2 st ws) : GC E Γ ce sl nL pc lv st ws := by
  obtain ⟨p, e, R, s, m, args, below, meth, c, Q, A⟩ := Γ
  intro ls H locs hl hP hD hS
  have h1 := kget hl hg
  have hl3 : lv_has ls nL ((i, .int x) :: lv) := ⟨hl.1, hl.2.1, fun q hq => (List.mem_cons.mp hq).elim (fun z => by rw [z]; exact h1) (hl.2.2 q)⟩
  refine lv_iinc (k := 0) h.1 h.2.1 hd hl3 rfl hv hn ?_ (fun ls hl => (k ls H locs hl hP hD hS))
  rw [← hl2]
  show _ :: List.filter _ ((i, Value.int x) :: lv) = _
  rw [List.filter_cons]
  simp [zput]
theorem k_goto {off : Int} {tgt : Nat} (h : Kx E Γ own cc nL d mc ms) (hd : decode cc pc = .ok (.goto off, 3)) (ht : (pc : Int) + off = (tgt : Int)) (k : GC E Γ ce sl nL tgt lv st ws) : GC E Γ ce sl nL pc lv st ws := by
  obtain ⟨p, e, R, s, m, args, below, meth, c, Q, A⟩ := Γ
  intro ls H locs hl hP hD hS
  exact lv_goto h.1 h.2.1 hd ht (k ls H locs hl hP hD hS)
theorem k_icmp_ge {x y : Int32} {off : Int} {tgt : Nat} (h : Kx E Γ own cc nL d mc ms) (hd : decode cc pc = .ok (.if_icmp .ge off, 3)) (ht : (pc : Int) + off = (tgt : Int)) (kt : y ≤ x → GC E Γ ce sl nL tgt lv st ws) (kf : ¬ (y ≤ x) → GC E Γ ce sl nL (pc + 3) lv st ws) : GC E Γ ce sl nL pc lv (.int y :: .int x :: st) ws := by
  obtain ⟨p, e, R, s, m, args, below, meth, c, Q, A⟩ := Γ
  intro ls H locs hl hP hD hS
  exact lv_icmp_ge h.1 h.2.1 hd ht (fun q => kt q ls H locs hl hP hD hS) (fun q => kf q ls H locs hl hP hD hS)
theorem k_dup {v : Value} (h : Kx E Γ own cc nL d mc ms) (hd : decode cc pc = .ok (.dup, 1)) (hc : v.category = 1) (k : GC E Γ ce sl nL (pc + 1) lv (v :: v :: st) ws) : GC E Γ ce sl nL pc lv (v :: st) ws := by
  obtain ⟨p, e, R, s, m, args, below, meth, c, Q, A⟩ := Γ
  intro ls H locs hl hP hD hS
  exact lv_dup h.1 h.2.1 hd hc (k ls H locs hl hP hD hS)
theorem k_sub {lv2 : List (Nat × Value)} (ks : List Nat) (hl2 : lv_pick lv ks = lv2) (k : GC E Γ ce sl nL pc lv2 st ws) : GC E Γ ce sl nL pc lv st ws := by
  obtain ⟨p, e, R, s, m, args, below, meth, c, Q, A⟩ := Γ
  intro ls H locs hl hP hD hS
  exact k ls H locs (lv_sub hl ks hl2) hP hD hS
theorem k_ws {ws2 : va_W} (e0 : ws = ws2) (k : GC E Γ ce sl nL pc lv st ws2) : GC E Γ ce sl nL pc lv st ws := e0 ▸ k
theorem k_objInit {idx a : Nat} (h : Kx E Γ own cc nL d mc ms) (hw : Cond.methodLink own idx Lib.objectInit ∈ zTb) (hw2 : Cond.instanceMethod Lib.objectInit ∈ zTb) (hw3 : Cond.code Lib.objectInit ⟨#[0xb1]⟩ 1 none ∈ zTb) (hd : decode cc pc = .ok (.invokespecial idx, 3)) (hdd : 1 ≤ d) (k : GC E Γ ce sl nL (pc + 3) lv [] ws) : GC E Γ ce sl nL pc lv [.ref a] ws := by
  obtain ⟨p, e, R, s, m, args, below, meth, c, Q, A⟩ := Γ
  obtain ⟨hx, hb, hml, hown, hts, hK, hA, ⟨hRf, hRl, hRc, hRs⟩, hlk, hN⟩ := h
  intro ls H locs hl hP hD hS
  exact W.objInit hx hb hown (hts _ hw) (hts _ hw2) (hts _ hw3) rfl (by rw [hml]; exact hl.1) rfl hd (by omega) (by show 2 * 0 + 0 + 12 ≤ R.locals; omega) (k ls H locs hl hP hD hS)
theorem k_new {index ci N : Nat} {C : String} {T : u_T} {fs : List Value} (h : Kx E Γ own cc nL d mc ms) (hin : ∀ w ∈ u_ws C T N, w ∈ zTb) (ty : Nat → FieldType) (hty : ∀ k, k < N → parseFieldDescriptor (T k).2.2.1 = some (ty k)) (w1 : Cond.classLink own index C ∈ zTb) (w2 : Cond.instantiable C N ∈ zTb) (w3 : Cond.initialized C ∈ zTb) (hc : vwCl[ci]? = some (C, T, N)) (hfs : ∀ j, j < N → defaultValue (ty j) = vp_V fs j) (h1 : ce + 1 ≤ mc) (h2 : sl + N ≤ ms) (hd : decode cc pc = .ok (.new index, 3))
    (k : ∀ q, GC E Γ (ce + 1) (sl + N) nL (pc + 3) lv (.ref q :: st) (ws ++ [(q, .inr (ci, fs))])) : GC E Γ ce sl nL pc lv st ws := by
  obtain ⟨p, e, R, s, m, args, below, meth, c, Q, A⟩ := Γ
  obtain ⟨hx, hb, hml, hown, hts, hK, hA, ⟨hRf, hRl, hRc, hRs⟩, hlk, hN⟩ := h
  intro ls H locs hl hP hD hS
  exact va_new hx hb hts hin ty hty hown (hts _ w1) (hts _ w2) (hts _ w3) hK hP hD hS hA hc hfs (by omega) (by omega) hd (fun q H1 hP1 hD1 hS1 => k q ls H1 locs hl hP1 hD1 hS1)
theorem va_RA_eq {s : State} {cA cB : ClassId} {ty : FieldType} (h1 : va_RA s cA ty) (h2 : va_RA s cB ty) : cA = cB := by
  cases ty with
  | object C =>
    obtain ⟨-, -, -, -, -, h1⟩ := h1
    obtain ⟨-, -, -, -, -, h2⟩ := h2
    exact Option.some.inj (h1.symm.trans h2)
  | _ => exact Option.some.inj (h1.symm.trans h2)
theorem k_newa {atype : ArrayType} {ty : FieldType} {n : Int32} {N' t : Nat} {a0 : vp_A} (h : Kx E Γ own cc nL d mc ms) (w1 : Cond.arrayClass (newarray.typeOf atype) ∈ zTb) (hty : newarray.typeOf atype = ty) (ht : (zTy E.2.2.1)[t]? = some (E.2.2.1 t, ty)) (ha : ∀ cA : ClassId, vp_cell cA a0 = arrV cA N' (fun _ => defaultValue ty)) (hn : ¬ n < 0) (hN : n.toNatClampNeg = N') (hby : N' * componentBytes ty ≤ 536870912) (h1 : ce + 1 ≤ mc) (h2 : sl + N' ≤ ms) (hd : decode cc pc = .ok (.newarray atype, 2))
    (k : ∀ q, GC E Γ (ce + 1) (sl + N') nL (pc + 2) lv (.ref q :: st) (ws ++ [(q, .inl (E.2.2.1 t, a0))])) : GC E Γ ce sl nL pc lv (.int n :: st) ws := by
  obtain ⟨p, e, R, s, m, args, below, meth, c, Q, A⟩ := Γ
  obtain ⟨hx, hb, hml, hown, hts, hK, hA, ⟨hRf, hRl, hRc, hRs⟩, hlk, hN0⟩ := h
  intro ls H locs hl hP hD hS
  refine va_newa hx hb (hts _ w1) hty hK hP hD hS hA ha hn hN hby (by omega) (by omega) hd (fun q cA H1 hK1 hP1 hD1 hS1 => ?_)
  have e1 : cA = E.2.2.1 t := va_RA_eq (hK1.2 (zTy E.2.2.1).length (cA, ty) (by rw [List.getElem?_append_right (Nat.le_refl _)]; simp)).2 (hK.2 t _ ht).2
  subst e1
  exact k q ls H1 locs hl hP1 hD1 hS1
theorem k_newq {index : Nat} {n : Int32} {N' : Nat} (h : Kx E Γ own cc nL d mc ms) (w1 : Cond.classLink own index nWh ∈ zTb) (hn : ¬ n < 0) (hN : n.toNatClampNeg = N') (hby : N' * 4 ≤ 536870912) (h1 : ce + 1 ≤ mc) (h2 : sl + N' ≤ ms) (hd : decode cc pc = .ok (.anewarray index, 3))
    (k : ∀ q, GC E Γ (ce + 1) (sl + N') nL (pc + 3) lv (.ref q :: st) (ws ++ [(q, .inl (E.2.2.1 4, N', .inr (.inr (.inr (.inr (fun _ => none))))))])) : GC E Γ ce sl nL pc lv (.int n :: st) ws := by
  obtain ⟨p, e, R, s, m, args, below, meth, c, Q, A⟩ := Γ
  obtain ⟨hx, hb, hml, hown, hts, hK, hA, ⟨hRf, hRl, hRc, hRs⟩, hlk, hN0⟩ := h
  intro ls H locs hl hP hD hS
  refine va_newq hx hb hown (hts _ w1) hN0.2.2 hK hP hD hS hA hn hN hby (by omega) (by omega) hd (fun q cA H1 hK1 hP1 hD1 hS1 => ?_)
  have e1 : cA = E.2.2.1 4 := va_RA_eq (hK1.2 (zTy E.2.2.1).length (cA, .object nWh) (by rw [List.getElem?_append_right (Nat.le_refl _)]; simp)).2 (hK.2 4 _ rfl).2
  subst e1
  exact k q ls H1 locs hl hP1 hD1 hS1
/-- a field's words -/
def kFl (own : String) (idx c j : Nat) (fin : Bool) (ty : FieldType) : Prop := ∃ (C : String) (T : u_T) (N : Nat) (t0 : Nat → FieldType), vwCl[c]? = some (C, T, N) ∧ j < N ∧ (∀ w ∈ u_ws C T N, w ∈ zTb) ∧ Cond.fieldLink own idx (T j).1 (T j).2.1 (T j).2.2.1 ∈ zTb ∧ (∀ k, k < N → parseFieldDescriptor (T k).2.2.1 = some (t0 k)) ∧ (∀ a, a < N → ∀ b, b < N → a ≠ b → (T a).2.1 ≠ (T b).2.1) ∧ (T j).2.2.2 = fin ∧ parseFieldDescriptor (T j).2.2.1 = some ty ∧ (T j).1 = own
theorem k_put {idx ci j q0 a : Nat} {fin : Bool} {ty : FieldType} {v : Value} {fs : List Value} (h : Kx E Γ own cc nL d mc ms) (hi : Kin Γ) (hf : kFl own idx ci j fin ty) (hd : decode cc pc = .ok (.putfield idx, 3)) (he : ws[q0]? = some (a, .inr (ci, fs))) (hn : narrow ty v = v) (hfit : fits ty v = true) (hl0 : j < fs.length) (k : GC E Γ ce sl nL (pc + 3) lv st (ws.set q0 (a, .inr (ci, fs.set j v)))) : GC E Γ ce sl nL pc lv (v :: .ref a :: st) ws := by
  obtain ⟨p, e, R, s, m, args, below, meth, c, Q, A⟩ := Γ
  obtain ⟨hx, hb, hml, hown, hts, hK, hA, ⟨hRf, hRl, hRc, hRs⟩, hlk, hN0⟩ := h
  obtain ⟨C, T, N, t0, hc, hjN, hin, hlk2, hty, hnm, hfin, hds, hdec⟩ := hf
  intro ls H locs hl hP hD hS
  cases fin with
  | true => exact va_putF hx hb hts hin t0 hty hnm hown hK hP hD hS q0 he hc j hjN (hts _ hlk2) (fun _ h9 => h9) hfin hi hdec hds hn hfit hl0 hd (fun H1 locs1 hP1 hD1 hS1 => k ls H1 locs1 hl hP1 hD1 hS1)
  | false => exact va_put hx hb hts hin t0 hty hnm hown hK hP hD hS q0 he hc j hjN (hts _ hlk2) (fun _ h9 => h9) hfin hds hn hfit hl0 hd (fun H1 locs1 hP1 hD1 hS1 => k ls H1 locs1 hl hP1 hD1 hS1)
theorem k_putI {idx ci j q0 a : Nat} {ty : FieldType} {v : Value} {fs : List Value} (h : Kx E Γ own cc nL d mc ms) (hf : kFl own idx ci j false ty) (hd : decode cc pc = .ok (.putfield idx, 3)) (he : ws[q0]? = some (a, .inr (ci, fs))) (hn : narrow ty v = v) (hfit : fits ty v = true) (hl0 : j < fs.length) (k : GC E Γ ce sl nL (pc + 3) lv st (ws.set q0 (a, .inr (ci, fs.set j v)))) : GC E Γ ce sl nL pc lv (v :: .ref a :: st) ws := by
  obtain ⟨p, e, R, s, m, args, below, meth, c, Q, A⟩ := Γ
  obtain ⟨hx, hb, hml, hown, hts, hK, hA, ⟨hRf, hRl, hRc, hRs⟩, hlk, hN0⟩ := h
  obtain ⟨C, T, N, t0, hc, hjN, hin, hlk2, hty, hnm, hfin, hds, hdec⟩ := hf
  intro ls H locs hl hP hD hS
  exact va_put hx hb hts hin t0 hty hnm hown hK hP hD hS q0 he hc j hjN (hts _ hlk2) (fun _ h9 => h9) hfin hds hn hfit hl0 hd (fun H1 locs1 hP1 hD1 hS1 => k ls H1 locs1 hl hP1 hD1 hS1)
theorem k_get {idx ci j q0 a : Nat} {fin : Bool} {ty : FieldType} {v : Value} {fs : List Value} (h : Kx E Γ own cc nL d mc ms) (hf : kFl own idx ci j fin ty) (hd : decode cc pc = .ok (.getfield idx, 3)) (he : ws[q0]? = some (a, .inr (ci, fs))) (hv : fs[j]? = some v) (k : GC E Γ ce sl nL (pc + 3) lv (v :: st) ws) : GC E Γ ce sl nL pc lv (.ref a :: st) ws := by
  obtain ⟨p, e, R, s, m, args, below, meth, c, Q, A⟩ := Γ
  obtain ⟨hx, hb, hml, hown, hts, hK, hA, ⟨hRf, hRl, hRc, hRs⟩, hlk, hN0⟩ := h
  obtain ⟨C, T, N, t0, hc, hjN, hin, hlk2, hty, hnm, hfin, hds, hdec⟩ := hf
  intro ls H locs hl hP hD hS
  exact va_get hx hb hts hin hown hK hP q0 he hc j hjN (hts _ hlk2) (fun _ h9 => h9) hv hd (k ls H locs hl hP hD hS)
theorem k_iast {q0 a n : Nat} {f : Nat → Int32} {i x : Int32} (h : Kx E Γ own cc nL d mc ms) (hd : decode cc pc = .ok (.iastore, 1)) (he : ws[q0]? = some (a, .inl (E.2.2.1 0, n, .inl f))) (hi : zin i n) (k : GC E Γ ce sl nL (pc + 1) lv st (ws.set q0 (a, .inl (E.2.2.1 0, n, .inl (upd f i.toNatClampNeg x))))) : GC E Γ ce sl nL pc lv (.int x :: .int i :: .ref a :: st) ws := by
  obtain ⟨p, e, R, s, m, args, below, meth, c, Q, A⟩ := Γ
  intro ls H locs hl hP hD hS
  exact va_iast h.1 h.2.1 h.2.2.2.2.2.1 hP hD hS q0 0 he rfl (zin_vp hi) hd (fun H1 locs1 hP1 hD1 hS1 => k ls H1 locs1 hl hP1 hD1 hS1)
theorem k_astq {q0 qk a n v : Nat} {vs : List Value} {f : Nat → Option Nat} {i : Int32} (h : Kx E Γ own cc nL d mc ms) (hd : decode cc pc = .ok (.aastore, 1)) (he : ws[q0]? = some (a, .inl (E.2.2.1 4, n, .inr (.inr (.inr (.inr f)))))) (hv : ws[qk]? = some (v, .inr (10, vs))) (hi : zin i n) (k : GC E Γ ce sl nL (pc + 1) lv st (ws.set q0 (a, .inl (E.2.2.1 4, n, .inr (.inr (.inr (.inr (va_up f i.toNatClampNeg (some v))))))))) : GC E Γ ce sl nL pc lv (.ref v :: .int i :: .ref a :: st) ws := by
  obtain ⟨p, e, R, s, m, args, below, meth, c, Q, A⟩ := Γ
  intro ls H locs hl hP hD hS
  exact va_astq (r := (RX10, TX10, 6)) h.1 h.2.1 h.2.2.2.2.2.1 hP hD hS q0 4 qk 10 he rfl hv rfl (zin_vp hi) hd (fun H1 locs1 hP1 hD1 hS1 => k ls H1 locs1 hl hP1 hD1 hS1)
theorem k_alenq {q0 a n : Nat} {f : Nat → Option Nat} {v : Int32} (h : Kx E Γ own cc nL d mc ms) (hd : decode cc pc = .ok (.arraylength, 1)) (he : ws[q0]? = some (a, .inl (E.2.2.1 4, n, .inr (.inr (.inr (.inr f)))))) (hv : Int32.ofNat n = v) (k : GC E Γ ce sl nL (pc + 1) lv (.int v :: st) ws) : GC E Γ ce sl nL pc lv (.ref a :: st) ws := by
  obtain ⟨p, e, R, s, m, args, below, meth, c, Q, A⟩ := Γ
  intro ls H locs hl hP hD hS
  exact va_alen h.1 h.2.1 h.2.2.2.2.2.1 hP q0 4 he rfl hv hd (k ls H locs hl hP hD hS)
end KR
/-- the world behind a call that was given the last cell alone -/
theorem joinL {A0 : Nat → Prop} {D : va_G} {cl : List vw_C} {w0 w1 wc : va_W} {H H1 : Heap} (hP : va_P D cl (w0 ++ wc) H) (hD : va_D A0 (w0 ++ wc)) (hk : ∀ q : Nat, q < H.size → ¬ va_A wc H.size q → H1[q]? = H[q]?) (hF : ∀ q, va_A wc H.size q → A0 q) (hP1 : va_P D cl w1 H1) (hD1 : va_D (va_A wc H.size) w1) : va_P D cl (w0 ++ w1) H1 ∧ va_D A0 (w0 ++ w1) := by
  have at0 : ∀ (k : Nat) (q : Nat × va_E), w0[k]? = some q → k < w0.length ∧ (w0 ++ wc)[k]? = some q := fun k q hq => by
    have hl := (List.getElem?_eq_some_iff.mp hq).1
    exact ⟨hl, by rw [List.getElem?_append_left hl]; exact hq⟩
  have apart : ∀ (k : Nat) (q : Nat × va_E), w0[k]? = some q → q.1 < H.size ∧ ¬ va_A wc H.size q.1 := by
    intro k q hq
    obtain ⟨hl, h2⟩ := at0 k q hq
    have hlt := (hP k q h2).lt
    refine ⟨hlt, fun h => ?_⟩
    rcases h with ⟨k2, e, h⟩ | h
    · have h4 : (w0 ++ wc)[w0.length + k2]? = some (q.1, e) := by rw [List.getElem?_append_right (by omega)]; simpa using h
      have := hD.1 k (w0.length + k2) q (q.1, e) h2 h4 rfl
      omega
    · omega
  refine ⟨va_P.app (fun k q hq => ?_) hP1, va_D.app ⟨fun i j x y hx hy hxy => hD.1 i j x y (at0 i x hx).2 (at0 j y hy).2 hxy, fun k q hq => hD.2 k q (at0 k q hq).2⟩ (hD1.weaken (fun k q _ h => hF q.1 h)) (fun i j x y hx hy hxy => ?_)⟩
  · obtain ⟨g1, g2⟩ := apart k q hq
    exact (hP k q (at0 k q hq).2).kept (hk q.1 g1 g2)
  · exact (apart i x hx).2 (by rw [hxy]; exact hD1.2 j y hy)
theorem va_P.tail {D : va_G} {cl : List vw_C} {w0 wc : va_W} {H : Heap} (hP : va_P D cl (w0 ++ wc) H) : va_P D cl wc H := fun k q hq => hP (w0.length + k) q (by rw [List.getElem?_append_right (by omega)]; simpa using hq)
theorem va_D.tail {A : Nat → Prop} {w0 wc : va_W} (hD : va_D A (w0 ++ wc)) : va_D A wc := ⟨fun i j x y hx hy hxy => by
  have := hD.1 (w0.length + i) (w0.length + j) x y (by rw [List.getElem?_append_right (by omega)]; simpa using hx) (by rw [List.getElem?_append_right (by omega)]; simpa using hy) hxy
  omega, fun k q hq => hD.2 (w0.length + k) q (by rw [List.getElem?_append_right (by omega)]; simpa using hq)⟩
/-- a contract over the cells wc alone: they become blk f, f the new addresses -/
def kPre (E : kE) (sz : Nat) (wc : va_W) (U : State) : Prop := U.heap.size = sz ∧ va_P E.2.1 vwCl wc U.heap ∧ va_K E.2.1 vwCl (zTy E.2.2.1) U ∧ va_D (fun _ => True) wc ∧ zNw U ∧ Pl E.2.2.2 (va_A wc sz) U ∧ va_AO nWh U
def kB {S : Type} (E : kE) (A : Nat → Prop) (blk : S → va_W) (f : S) (t : State) : Prop := va_P E.2.1 vwCl (blk f) t.heap ∧ va_K E.2.1 vwCl (zTy E.2.2.1) t ∧ va_D A (blk f)
def kRm (d mc ms : Nat) : Room := { frames := d, cells := mc, slots := ms, locals := 64 * d }
def CK {S : Type} (E : kE) (d mc ms : Nat) (y : MethodName) (cc : ByteArray) (nL : Nat) (as : List Value) (wc : va_W) (blk : S → va_W) : Prop :=
  ∀ sz, Met E.1 y (.code y cc nL none :: zTb) (kRm d mc ms) (va_Pc as (kPre E sz wc)) (va_Qv (fun _ : S => True) (kB E (va_A wc sz) blk) (va_A wc sz)) mc ms (va_A wc sz)
def kQ {S : Type} (E : kE) (Γ : zU) (mc ms : Nat) (blk : S → va_W) : Prop := match Γ with
  | (p, e, R, s, m, args, below, meth, c, Q, A) => meth.sig.returnType = none ∧ Q = MQ below (va_Qv (fun _ : S => True) (kB E A blk) A) args s mc ms A
theorem CK.of {S : Type} {E : kE} {d mc ms : Nat} {y : MethodName} {cc : ByteArray} {nL : Nat} {as : List Value} {wc : va_W} {blk : S → va_W} (hy : plainName y.cls = true) (hn : (lg_sl as).length ≤ nL)
    (body : ∀ Γ : zU, Kx E Γ y.cls cc nL d mc ms → (y.name = "<init>" → Kin Γ) → kQ E Γ mc ms blk → GC E Γ 0 0 nL 0 (lv_args 0 as) [] wc) : CK E d mc ms y cc nL as wc blk := by
  intro sz
  refine Met.ofW (cc := cc) (maxL := nL) (ret := none) hy rfl ?_
  intro p e s m args below meth c s₁ B hml hv
  obtain ⟨rfl, hsz, hP, hK, hD0, hNw, hPl, hAO⟩ := hv
  have hts := atoms_spec (ws := .code y cc nL none :: zTb) B.pre
  have hown : s.vm.findClass y.cls = some m.cls := findClass_of_methodNamed B.named
  have hlocks := B.notSynchronized
  subst hsz
  have hD := hD0.self (sz := s.heap.size)
  have hl := lv_entry as (n := nL) hn
  rw [lg_entry_eq]
  exact body (p, e, kRm d mc ms, s, m, _, below, meth, c, _, va_A wc s.heap.size) ⟨B.exec, B.bytes, hml, hown, fun w hw => hts w (List.mem_cons_of_mem _ hw), hK, fun q h => Or.inr h, ⟨Nat.le_refl _, Nat.le_refl _, Nat.le_refl _, Nat.le_refl _⟩, hlocks, hNw, hPl, hAO⟩ (fun h => (name_of_methodNamed B.named B.method).1.trans h) ⟨B.returns, rfl⟩ _ _ [] hl hP hD va_S.rf
theorem k_vret {S : Type} {E : kE} {Γ : zU} {own : String} {cc : ByteArray} {ce sl nL d mc ms pc : Nat} {lv : List (Nat × Value)} {ws : va_W} {blk : S → va_W} (h : Kx E Γ own cc nL d mc ms) (hq : kQ E Γ mc ms blk) (h1 : ce ≤ mc) (h2 : sl ≤ ms) (hd : decode cc pc = .ok (.return_, 1)) (f : S) (hf : ws = blk f) : GC E Γ ce sl nL pc lv [] ws := by
  obtain ⟨p, e, R, s, m, args, below, meth, c, Q, A⟩ := Γ
  obtain ⟨hx, hb, hml, hown, hts, hK, hA, ⟨hRf, hRl, hRc, hRs⟩, hlk, hN0⟩ := h
  obtain ⟨hr, rfl⟩ := hq
  subst hf
  intro ls H locs hl hP hD hS
  refine W.widen (k := mc) (n := ms) h1 h2 ?_
  exact W.vret (hlocks := hlk) hx hb hr (fun t ht hW => ⟨⟨f, rfl, trivial, by rw [ht]; exact hP, va_K.moved hW.alike hK, hD⟩, hS.F ht⟩) hS.2.2 hd
theorem kPre.blind {E : kE} {sz : Nat} {wc : va_W} {av : List Value} : FrameBlind (va_Pc av (kPre E sz wc)) := by
  intro a U g mk q
  obtain ⟨q0, q1, qP, qK, qD, qN, qE, qO⟩ := q
  exact ⟨q0, q1, qP, va_K.moved (u := U) (U := U.calling g mk a) (Vm.Alike.refl U.vm) qK, qD, qN.same (U := U.calling g mk a) rfl, qE.same (U := U.calling g mk a) rfl rfl, va_AO.moved (u := U) (U := U.calling g mk a) (Vm.Alike.refl U.vm) qO⟩
theorem kFree {A : Nat → Prop} {s : State} {H : Heap} {locs : List Loc} {w0 wc : va_W} (hD : va_D A (w0 ++ wc)) (hS : va_S A s.heap H locs) (hA : ∀ q, s.heap.size ≤ q → A q) : ∀ q, va_A wc H.size q → A q := by
  rintro q (⟨k, e, h⟩ | h)
  · exact hD.tail.2 k (q, e) h
  · exact hA q (Nat.le_trans hS.1 h)
/-- words of a call of a constructor (or of a method of the same kind): plain, or by the nest -/
def kWd (own : String) (idx : Nat) (y : MethodName) (cc : ByteArray) (nL n : Nat) : Prop := Cond.code y cc nL none ∈ zTb ∧ Cond.initialized y.cls ∈ zTb ∧ Cond.instanceMethod y ∈ zTb ∧ (y.cls ≠ "java/lang/invoke/MethodHandle" ∧ y.cls ≠ "java/lang/invoke/VarHandle" ∧ (parseMethodDescriptor y.desc).map (fun d => d.parameters.length) = some n) ∧ nL ≤ 40 ∧ (Cond.methodLink own idx y ∈ zTb ∨ ∃ host, (own, idx, y, host) ∈ zNM)
section KC
variable {E : kE} {Γ : zU} {own : String} {cc : ByteArray} {ce sl nL d mc ms pc : Nat} {lv : List (Nat × Value)} {st : List Value} {w0 wc : va_W} {S : Type} {blk : S → va_W}
theorem k_init {idx n nL' d' mc' ms' q : Nat} {y : MethodName} {cc' : ByteArray} (as : List Value) (h : Kx E Γ own cc nL d mc ms) (hw : kWd own idx y cc' nL' n) (hy : y.name = "<init>") (hd : decode cc pc = .ok (.invokespecial idx, 3)) (hn : as.length = n) (hdd : d' + 1 ≤ d) (hst : (st.map fun v => v.category).sum ≤ 8) (h1 : ce + mc' ≤ mc) (h2 : sl + ms' ≤ ms) (hM : CK E d' mc' ms' y cc' nL' (.ref q :: as) wc blk)
    (kk : ∀ f, GC E Γ (ce + mc') (sl + ms') nL (pc + 3) lv st (w0 ++ blk f)) : GC E Γ ce sl nL pc lv (as.reverse ++ .ref q :: st) (w0 ++ wc) := by
  obtain ⟨p, e, R, s, m, args, below, meth, c, Q, A⟩ := Γ
  obtain ⟨hx, hb, hml, hown, hts, hK, hA, ⟨hRf, hRl, hRc, hRs⟩, hlk, hN, hPl, hAO⟩ := h
  intro ls H locs hl hP hD hS
  obtain ⟨w1, w2, w3, w4, w6, w7⟩ := hw
  have hR : (kRm d' mc' ms').frames + 1 ≤ R.frames ∧ 8 + (nL' + 11) + (kRm d' mc' ms').locals ≤ R.locals := ⟨Nat.le_trans hdd hRf, by show 8 + (nL' + 11) + 64 * d' ≤ R.locals; omega⟩
  have hF := kFree hD hS hA
  have hpre : PreS s H (va_Pc (.ref q :: as) (kPre E H.size wc)) (.ref q :: as) := ⟨kPre.blind, fun U hU hW => ⟨rfl, by rw [hU], by rw [hU]; exact hP.tail, va_K.moved hW.alike hK, hD.tail.weaken (fun _ _ _ _ => trivial), hN.warm hW, hPl.next hS hF hU hW, va_AO.moved hW.alike hAO⟩⟩
  have hrun : va_Run p E.1 e R s m args below meth c H locs ce sl mc' ms' (F0 m pc ls (as.reverse ++ .ref q :: st)) st (va_Qv (fun _ : S => True) (kB E (va_A wc H.size) blk) (va_A wc H.size) (Value.ref q :: as).toArray) (va_A wc H.size) := by
    rcases w7 with w7 | ⟨host, w7⟩
    · exact va_runI (As := as) (rest := st) ⟨hx, hb, hml, hown, hts⟩ (hM H.size) ⟨callB_of n hts (zGood w1) rfl rfl rfl (hts _ w2) (hts _ w7) w4 hR, hy, hts _ w3⟩ hpre rfl hn hl.1 rfl (lv_room hst) hd ⟨by omega, by omega⟩
    · exact va_runIN (As := as) (rest := st) ⟨hx, hb, hml, hown, hts⟩ (hM H.size) ⟨va_cnB n hts (zGood w1) rfl rfl rfl (hN.2 _ w7) (hts _ w2) w4 hR, hy, hts _ w3⟩ hpre rfl hn hl.1 rfl (lv_room hst) hd ⟨by omega, by omega⟩
  refine va_callv hrun hS (fun q _ hq => hF q hq) hF (fun f t H1 locs1 ht hvm _ hB hz1 hk1 hS1 => ?_)
  obtain ⟨hP1, hK1, hD1⟩ := hB
  rw [ht] at hP1
  obtain ⟨hP2, hD2⟩ := joinL hP hD hk1 hF hP1 hD1
  exact kk f ls H1 locs1 hl hP2 hD2 hS1
theorem k_callV {idx n nL' d' mc' ms' q ci : Nat} {y : MethodName} {cc' : ByteArray} {C : String} {T : u_T} {N : Nat} {fs : List Value} {wr : va_W} (as : List Value) (h : Kx E Γ own cc nL d mc ms) (hw : kWd own idx y cc' nL' n) (hlk : Cond.methodLink own idx y ∈ zTb) (hsel : Cond.selects C y y ∈ zTb) (hc : vwCl[ci]? = some (C, T, N)) (hwc : wc = (q, .inr (ci, fs)) :: wr) (hd : decode cc pc = .ok (.invokevirtual idx, 3)) (hn : as.length = n) (hdd : d' + 1 ≤ d) (hst : (st.map fun v => v.category).sum ≤ 8) (h1 : ce + mc' ≤ mc) (h2 : sl + ms' ≤ ms) (hM : CK E d' mc' ms' y cc' nL' (.ref q :: as) wc blk)
    (kk : ∀ f, GC E Γ (ce + mc') (sl + ms') nL (pc + 3) lv st (w0 ++ blk f)) : GC E Γ ce sl nL pc lv (as.reverse ++ .ref q :: st) (w0 ++ wc) := by
  obtain ⟨p, e, R, s, m, args, below, meth, c, Q, A⟩ := Γ
  obtain ⟨hx, hb, hml, hown, hts, hK, hA, ⟨hRf, hRl, hRc, hRs⟩, hlk0, hN, hPl, hAO⟩ := h
  intro ls H locs hl hP hD hS
  obtain ⟨w1, w2, w3, w4, w6, w7⟩ := hw
  have hR : (kRm d' mc' ms').frames + 1 ≤ R.frames ∧ 8 + (nL' + 11) + (kRm d' mc' ms').locals ≤ R.locals := ⟨Nat.le_trans hdd hRf, by show 8 + (nL' + 11) + 64 * d' ≤ R.locals; omega⟩
  have hF := kFree hD hS hA
  have hP9 := hP.tail
  have hrun : va_Run p E.1 e R s m args below meth c H locs ce sl mc' ms' (F0 m pc ls (as.reverse ++ .ref q :: st)) st (va_Qv (fun _ : S => True) (kB E (va_A wc H.size) blk) (va_A wc H.size) (Value.ref q :: as).toArray) (va_A wc H.size) := by
    refine va_runV (As := as) (rest := st) ⟨hx, hb, hml, hown, hts⟩ (hM H.size) ⟨callB_of n hts (zGood w1) rfl rfl rfl (hts _ w2) (hts _ hlk) w4 hR, hts _ w3, hts _ hsel⟩ ⟨kPre.blind, ?_, fun U hU hW => ⟨rfl, by rw [hU], by rw [hU]; exact hP9, va_K.moved hW.alike hK, hD.tail.weaken (fun _ _ _ _ => trivial), hN.warm hW, hPl.next hS hF hU hW, va_AO.moved hW.alike hAO⟩⟩ rfl hn hl.1 rfl (lv_room hst) hd ⟨by omega, by omega⟩
    exact va_recv (q0 := 0) (fs := fs) hK hP9 hc (by rw [hwc]; rfl)
  refine va_callv hrun hS (fun q _ hq => hF q hq) hF (fun f t H1 locs1 ht hvm _ hB hz1 hk1 hS1 => ?_)
  obtain ⟨hP1, hK1, hD1⟩ := hB
  rw [ht] at hP1
  obtain ⟨hP2, hD2⟩ := joinL hP hD hk1 hF hP1 hD1
  exact kk f ls H1 locs1 hl hP2 hD2 hS1
theorem k_getsP {idx : Nat} {ws : va_W} (h : Kx E Γ own cc nL d mc ms) (hw : Cond.fieldLink own idx "LostByState$Rule" "PLAIN" "[I" ∈ zTb) (hd : decode cc pc = .ok (.getstatic idx, 3)) (k : GC E Γ ce sl nL (pc + 3) lv (.ref E.2.2.2 :: st) ws) : GC E Γ ce sl nL pc lv st ws := by
  obtain ⟨p, e, R, s, m, args, below, meth, c, Q, A⟩ := Γ
  obtain ⟨hx, hb, hml, hown, hts, hK, hA, hR, hlk0, hN, hPl, hAO⟩ := h
  intro ls H locs hl hP hD hS
  exact va_gets hx hb hPl.1 hS hown (hts _ hw) (fun _ h9 => h9) hd (k ls H locs hl hP hD hS)
theorem k_alenP {ws : va_W} (h : Kx E Γ own cc nL d mc ms) (hd : decode cc pc = .ok (.arraylength, 1)) (k : GC E Γ ce sl nL (pc + 1) lv (.int 9 :: st) ws) : GC E Γ ce sl nL pc lv (.ref E.2.2.2 :: st) ws := by
  obtain ⟨p, e, R, s, m, args, below, meth, c, Q, A⟩ := Γ
  obtain ⟨hx, hb, hml, hown, hts, hK, hA, hR, hlk0, hN, hPl, hAO⟩ := h
  intro ls H locs hl hP hD hS
  exact va_slen hx hb hPl.2.1 hPl.2.2.1 hPl.2.2.2 hS hd (k ls H locs hl hP hD hS)
theorem k_copyP {idx q0 b nb : Nat} {g : Nat → Int32} {ws : va_W} (h : Kx E Γ own cc nL d mc ms) (hw : zWC own idx) (hd : decode cc pc = .ok (.invokestatic idx, 3)) (he : ws[q0]? = some (b, .inl (E.2.2.1 0, nb, .inl g))) (h5 : 9 ≤ nb) (hdd : 1 ≤ d) (hst : (st.map fun v => v.category).sum ≤ 8)
    (k : GC E Γ ce sl nL (pc + 3) lv st (ws.set q0 (b, .inl (E.2.2.1 0, nb, .inl (va_cpy (fun j => zPlain.getD j 0) g 0 0 9))))) : GC E Γ ce sl nL pc lv (.int 9 :: .int 0 :: .ref b :: .int 0 :: .ref E.2.2.2 :: st) ws := by
  obtain ⟨p, e, R, s, m, args, below, meth, c, Q, A⟩ := Γ
  obtain ⟨hx, hb, hml, hown, hts, hK, hA, ⟨hRf, hRl, hRc, hRs⟩, hlk0, hN, hPl, hAO⟩ := h
  intro ls H locs hl hP hD hS
  have h40 : nativeFrameWords "java/lang/System" "arraycopy" 5 ≤ 40 := by decide +kernel
  have hloc : (st.map fun v => v.category).sum + (nativeFrameWords "java/lang/System" "arraycopy" 5 + 11) ≤ R.locals := by omega
  exact va_copyx hx hb (by rw [hml]; exact hl.1.symm) hown (hts _ hw.1) (hts _ hw.2.1) (hts _ hw.2.2.1) (hts _ hw.2.2.2) hK hP hD hS hPl.2.1 hPl.2.2.1 hPl.2.2.2 q0 0 he rfl (sp := 0) (dp := 0) (n := 9) (by decide) (by decide) (by decide) (by decide) (show 0 + 9 ≤ nb by omega) (Nat.le_trans hdd hRf) hloc hd (fun H1 locs1 hP1 hD1 hS1 => k ls H1 locs1 hl hP1 hD1 hS1)
end KC
