/-! THE MACHINE OVER THE FIXED WORLD -/
def zTb : List Cond := lw_tbl.filter goodWord
theorem zTb_t {w : Cond} (i : Nat) (h : tables_1[i]? = some w) (hg : goodWord w = true) : w ∈ zTb :=
  List.mem_filter.mpr ⟨List.mem_append_right _ (List.mem_of_getElem? h), hg⟩
theorem zTb_p {w : Cond} (i : Nat) (h : (k2_sels lw_privs)[i]? = some w) (hg : goodWord w = true) : w ∈ zTb :=
  List.mem_filter.mpr ⟨List.mem_append_left _ (List.mem_of_getElem? h), hg⟩
/-- the nest's words -/
def zNF : List (String × Nat × String × String × String × String) := [("LostByState$Stock", 28, "LostByState$Text", "size", "I", "LostByState"), ("LostByState$Acts", 25, "LostByState$Text", "size", "I", "LostByState"), ("LostByState$RuleReader", 31, "LostByState$Text", "size", "I", "LostByState"), ("LostByState", 401, "LostByState$Text", "size", "I", "LostByState"), ("LostByState", 406, "LostByState$Row", "numbers", "[J", "LostByState"), ("LostByState", 400, "LostByState$Row", "many", "I", "LostByState"), ("LostByState", 176, "LostByState$Stock", "marks", "[I", "LostByState"), ("LostByState", 179, "LostByState$Stock", "worths", "[I", "LostByState"), ("LostByState", 148, "LostByState$Stock", "needs", "[I", "LostByState"), ("LostByState", 135, "LostByState$Stock", "thingMany", "I", "LostByState"), ("LostByState", 151, "LostByState$Stock", "deedMany", "I", "LostByState"), ("LostByState", 182, "LostByState$Whereabouts", "holder", "[I", "LostByState"), ("LostByState", 185, "LostByState$Whereabouts", "place", "[I", "LostByState"), ("LostByState", 188, "LostByState$Whereabouts", "days", "[I", "LostByState"), ("LostByState", 191, "LostByState$Whereabouts", "finder", "[I", "LostByState"), ("LostByState", 394, "LostByState$Whereabouts", "day", "I", "LostByState"), ("LostByState", 397, "LostByState$Whereabouts", "paid", "I", "LostByState"), ("LostByState", 268, "LostByState$Past", "many", "I", "LostByState"), ("LostByState$RuleReader", 26, "LostByState$Rule", "many", "I", "LostByState"), ("LostByState", 251, "LostByState$Acts", "kinds", "[I", "LostByState"), ("LostByState", 254, "LostByState$Acts", "first", "[I", "LostByState"), ("LostByState", 257, "LostByState$Acts", "second", "[I", "LostByState"), ("LostByState", 248, "LostByState$Acts", "many", "I", "LostByState"), ("LostByState", 295, "LostByState$Sharing", "described", "[I", "LostByState"), ("LostByState", 298, "LostByState$Sharing", "gain", "[I", "LostByState"), ("LostByState", 313, "LostByState$Sharing", "best", "[I", "LostByState"), ("LostByState", 289, "LostByState$Survey", "got", "[I", "LostByState"), ("LostByState", 330, "LostByState$Hearsay", "many", "I", "LostByState")]
def zNM : List (String × Nat × MethodName × String) := [("LostByState", 9, ⟨"LostByState$Text", "<init>", "()V"⟩, "LostByState"), ("LostByState", 18, ⟨"LostByState$Row", "<init>", "()V"⟩, "LostByState"), ("LostByState", 25, ⟨"LostByState$Stock", "<init>", "()V"⟩, "LostByState"), ("LostByState", 76, ⟨"LostByState$Acts", "<init>", "()V"⟩, "LostByState"), ("LostByState", 83, ⟨"LostByState$Sharing", "<init>", "()V"⟩, "LostByState"), ("LostByState", 90, ⟨"LostByState$Survey", "<init>", "()V"⟩, "LostByState"), ("LostByState", 97, ⟨"LostByState$Hearsay", "<init>", "()V"⟩, "LostByState"), ("LostByState$Sharing", 25, ⟨"LostByState", "isOf", "(II)Z"⟩, "LostByState"), ("LostByState$Stock", 47, ⟨"LostByState", "isOf", "(II)Z"⟩, "LostByState")]
def zNw (U : State) : Prop := (∀ q ∈ zNF, va_Nw (.fieldLinkNest q.1 q.2.1 q.2.2.1 q.2.2.2.1 q.2.2.2.2.1 q.2.2.2.2.2) U) ∧ ∀ q ∈ zNM, va_Nw (.methodLinkNest q.1 q.2.1 q.2.2.1 q.2.2.2) U
theorem zNw.warm {s U : State} (hW : s.WarmedH U.vm) (h : zNw s) : zNw U := ⟨fun q hq => va_Nw.warmF hW (h.1 q hq), fun q hq => va_Nw.warmM hW (h.2 q hq)⟩
theorem zNw.same {u U : State} (h : u.vm = U.vm) (hz : zNw u) : zNw U := ⟨fun q hq => va_Nw.same rfl h (hz.1 q hq), fun q hq => va_Nw.same rfl h (hz.2 q hq)⟩
/-- the row of Rule.PLAIN -/
def zPlain : List Int32 := [1000, 2, 2042, 1001, 3, 2042, 2045, 1002, 2045]
/-- what is read and never written, outside the world: Rule.PLAIN at ad 145, the text "mxywdn" at ad 146, its bytes at ad 147 -/
def zEx (ad : Nat → Nat) (A : Nat → Prop) (U : State) : Prop :=
  (va_Z "LostByState$Rule" "PLAIN" "[I" (.ref (ad 145)) A U U.heap ∧ va_X (ad 145) 9 (fun j => zPlain.getD j 0) U U.heap ∧ ad 145 < U.heap.size ∧ ¬ A (ad 145))
  ∧ (vk_R "LostByState$RuleReader" 77 "mxywdn" (ad 146) U ∧ va_O "java/lang/String" (ad 146) A U U.heap ∧ va_OF "java/lang/String" "value" "[B" (.ref (ad 147)) (ad 146) A U U.heap ∧ va_OF "java/lang/String" "coder" "B" (.int 0) (ad 146) A U U.heap ∧ va_T .byte (ad 147) 6 (fun j => .int (([109, 120, 121, 119, 100, 110] : List Int32).getD j 0)) A U U.heap)
  ∧ va_Z "java/lang/String" "COMPACT_STRINGS" "Z" (.int 1) A U U.heap
abbrev zE : Type := Launch × va_G × (Nat → ClassId) × (Nat → Nat)
abbrev zWE (E : zE) (M : zM) : va_W := zW E.2.2.1 E.2.2.2 M
def zv (ad : Nat → Nat) (v : Value) : Value := match v with
  | .ref k => .ref (ad k)
  | v => v
theorem zv_cat (ad : Nat → Nat) (v : Value) : (zv ad v).category = v.category := by cases v <;> rfl
def zlv (ad : Nat → Nat) (lv : List (Nat × Value)) : List (Nat × Value) := lv.map (fun q => (q.1, zv ad q.2))
def zget (lv : List (Nat × Value)) (i : Nat) : Option Value := (lv.find? (fun q => q.1 == i)).map (fun q => q.2)
def zput (lv : List (Nat × Value)) (i : Nat) (v : Value) : List (Nat × Value) := (i, v) :: lv.filter (fun q => !(q.1 == i) && !(q.1 + 1 == i && q.2.category == 2))
def zput2 (lv : List (Nat × Value)) (i : Nat) (v : Value) : List (Nat × Value) := (i, v) :: lv.filter (fun q => !(q.1 == i) && (!(q.1 == i + 1) && !(q.1 + 1 == i && q.2.category == 2)))
theorem zlv_filter (ad : Nat → Nat) (f : Nat → Nat → Bool) (lv : List (Nat × Value)) : (zlv ad lv).filter (fun q => f q.1 q.2.category) = zlv ad (lv.filter (fun q => f q.1 q.2.category)) := by
  induction lv with
  | nil => rfl
  | cons a l ih =>
    show List.filter _ ((a.1, zv ad a.2) :: zlv ad l) = _
    rw [List.filter_cons, List.filter_cons]
    dsimp only
    rw [zv_cat, ih]
    split <;> rfl
theorem zlv_put (ad : Nat → Nat) (lv : List (Nat × Value)) (i : Nat) (v : Value) : (i, zv ad v) :: (zlv ad lv).filter (fun q => !(q.1 == i) && !(q.1 + 1 == i && q.2.category == 2)) = zlv ad (zput lv i v) := by
  rw [zlv_filter ad (fun a b => !(a == i) && !(a + 1 == i && b == 2))]; rfl
theorem zlv_put2 (ad : Nat → Nat) (lv : List (Nat × Value)) (i : Nat) (v : Value) : (i, zv ad v) :: (zlv ad lv).filter (fun q => !(q.1 == i) && (!(q.1 == i + 1) && !(q.1 + 1 == i && q.2.category == 2))) = zlv ad (zput2 lv i v) := by
  rw [zlv_filter ad (fun a b => !(a == i) && (!(a == i + 1) && !(a + 1 == i && b == 2)))]; rfl
theorem zget_has {ls : Array Slot} {nL i : Nat} {ad : Nat → Nat} {lv : List (Nat × Value)} {v : Value} (h : lv_has ls nL (zlv ad lv)) (hg : zget lv i = some v) : ls[i]? = some (.val (zv ad v)) := by
  unfold zget at hg
  cases hf : lv.find? (fun q => q.1 == i) with
  | none => rw [hf] at hg; cases hg
  | some q =>
    rw [hf] at hg
    cases hg
    have h1 : q.1 = i := by simpa using List.find?_some hf
    have h2 := h.2.2 (q.1, zv ad q.2) (List.mem_map.mpr ⟨q, List.mem_of_find?_eq_some hf, rfl⟩)
    rw [← h1]
    exact h2
theorem zlv_args (ad : Nat → Nat) : ∀ (i : Nat) (as : List Value), lv_args i (as.map (zv ad)) = zlv ad (lv_args i as)
  | _, [] => rfl
  | i, v :: vs => by
    show (i, zv ad v) :: lv_args (if (zv ad v).category = 2 then i + 2 else i + 1) (vs.map (zv ad)) = (i, zv ad v) :: zlv ad (lv_args (if v.category = 2 then i + 2 else i + 1) vs)
    rw [zv_cat, zlv_args ad]
theorem zlg_len (ad : Nat → Nat) (as : List Value) : (lg_sl (as.map (zv ad))).length = (lg_sl as).length := by
  induction as with
  | nil => rfl
  | cons a l ih =>
    simp only [lg_sl, List.map_cons, List.flatMap_cons, List.length_append] at ih ⊢
    rw [zv_cat, ih]
    congr 1
    split <;> rfl
/-- a room of d frames -/
def zRm (d : Nat) : Room := { frames := d, cells := 0, slots := 0, locals := 64 * d }
abbrev zT : Type := Program × Env × Room × State × MethodId × Array Value × List Frame × Method × Code × (State → Prop) × (Nat → Prop) × Nat × Nat
/-- the machine at pc, with these locals, this stack, and the world holding M, comes to its end -/
def G (E : zE) (Γ : zT) (nL pc : Nat) (lv : List (Nat × Value)) (st : List Value) (M : zM) : Prop := match Γ with
  | (p, e, R, s, m, args, below, meth, c, Q, A, ce, sl) => ∀ (ls : Array Slot) (H : Heap) (locs : List Loc), lv_has ls nL (zlv E.2.2.2 lv) → va_P E.2.1 vwCl (zWE E M) H → va_D A (zWE E M) → va_S A s.heap H locs → W p E.1 e R s m args below meth c H locs ce sl Q (F0 m pc ls (st.map (zv E.2.2.2)))
/-- where a body stands -/
def Cx (E : zE) (Γ : zT) (own : String) (cc : ByteArray) (nL d : Nat) : Prop := match Γ with
  | (p, e, R, s, m, args, below, meth, c, Q, A, ce, sl) => p.tables.exec = Jvm.exec ∧ c.code = cc ∧ c.maxLocals = nL ∧ s.vm.findClass own = some m.cls ∧ (∀ w ∈ zTb, w.before args s = true) ∧ va_K E.2.1 vwCl (zTy E.2.2.1) s ∧ (∀ q, s.heap.size ≤ q → A q) ∧ (d ≤ R.frames ∧ 64 * d ≤ R.locals ∧ ce ≤ R.cells ∧ sl ≤ R.slots) ∧ meth.locks = false ∧ zNw s ∧ zEx E.2.2.2 A s
def zPre (E : zE) (sz : Nat) (M : zM) (U : State) : Prop := U.heap.size = sz ∧ va_P E.2.1 vwCl (zWE E M) U.heap ∧ va_K E.2.1 vwCl (zTy E.2.2.1) U ∧ va_D (fun _ => True) (zWE E M) ∧ zNw U ∧ zEx E.2.2.2 (va_A (zWE E M) sz) U
def zB (E : zE) (A : Nat → Prop) (M : zM) (t : State) : Prop := va_P E.2.1 vwCl (zWE E M) t.heap ∧ va_K E.2.1 vwCl (zTy E.2.2.1) t ∧ va_D A (zWE E M)
/-- what a return asks: the return type, and the end that the contract names -/
def zRi (E : zE) (Γ : zT) (rt : Option FieldType) (post : Int32 → zM → Prop) : Prop := match Γ with
  | (p, e, R, s, m, args, below, meth, c, Q, A, ce, sl) => meth.sig.returnType = rt ∧ Q = MQ below (va_Qi post (zB E A) A) args s 0 0 A ∧ ce = 0 ∧ sl = 0
def zRl (E : zE) (Γ : zT) (rt : Option FieldType) (post : Int64 → zM → Prop) : Prop := match Γ with
  | (p, e, R, s, m, args, below, meth, c, Q, A, ce, sl) => meth.sig.returnType = rt ∧ Q = MQ below (va_Ql post (zB E A) A) args s 0 0 A ∧ ce = 0 ∧ sl = 0
def zRv (E : zE) (Γ : zT) (rt : Option FieldType) (post : zM → Prop) : Prop := match Γ with
  | (p, e, R, s, m, args, below, meth, c, Q, A, ce, sl) => meth.sig.returnType = rt ∧ Q = MQ below (va_Qv post (zB E A) A) args s 0 0 A ∧ ce = 0 ∧ sl = 0
/-- contracts -/
def CMi (E : zE) (d : Nat) (y : MethodName) (cc : ByteArray) (nL : Nat) (rt : Option FieldType) (as : List Value) (M : zM) (post : Int32 → zM → Prop) : Prop :=
  ∀ sz, Met E.1 y (.code y cc nL rt :: zTb) (zRm d) (va_Pc (as.map (zv E.2.2.2)) (zPre E sz M)) (va_Qi post (zB E (va_A (zWE E M) sz)) (va_A (zWE E M) sz)) 0 0 (va_A (zWE E M) sz)
def CMl (E : zE) (d : Nat) (y : MethodName) (cc : ByteArray) (nL : Nat) (rt : Option FieldType) (as : List Value) (M : zM) (post : Int64 → zM → Prop) : Prop :=
  ∀ sz, Met E.1 y (.code y cc nL rt :: zTb) (zRm d) (va_Pc (as.map (zv E.2.2.2)) (zPre E sz M)) (va_Ql post (zB E (va_A (zWE E M) sz)) (va_A (zWE E M) sz)) 0 0 (va_A (zWE E M) sz)
def CMv (E : zE) (d : Nat) (y : MethodName) (cc : ByteArray) (nL : Nat) (rt : Option FieldType) (as : List Value) (M : zM) (post : zM → Prop) : Prop :=
  ∀ sz, Met E.1 y (.code y cc nL rt :: zTb) (zRm d) (va_Pc (as.map (zv E.2.2.2)) (zPre E sz M)) (va_Qv post (zB E (va_A (zWE E M) sz)) (va_A (zWE E M) sz)) 0 0 (va_A (zWE E M) sz)
section ZOF
variable {E : zE} {d : Nat} {y : MethodName} {cc : ByteArray} {nL : Nat} {rt : Option FieldType} {as : List Value} {M : zM}
theorem zof_aux {Qc : (Nat → Prop) → Array Value → State → Outcome → State → Prop} (hy : plainName y.cls = true) (hn : (lg_sl as).length ≤ nL)
    (body : ∀ Γ : zT, Cx E Γ y.cls cc nL d → (match Γ with | (p, e, R, s, m, args, below, meth, c, Q, A, ce, sl) => meth.sig.returnType = rt ∧ Q = MQ below (Qc A) args s 0 0 A ∧ ce = 0 ∧ sl = 0) → G E Γ nL 0 (lv_args 0 as) [] M) (sz : Nat) :
    Met E.1 y (.code y cc nL rt :: zTb) (zRm d) (va_Pc (as.map (zv E.2.2.2)) (zPre E sz M)) (Qc (va_A (zWE E M) sz)) 0 0 (va_A (zWE E M) sz) := by
  refine Met.ofW (cc := cc) (maxL := nL) (ret := rt) hy rfl ?_
  intro p e s m args below meth c s₁ B hml hv
  obtain ⟨rfl, hsz, hP, hK, hD0, hNw, hEx⟩ := hv
  have hts := atoms_spec (ws := .code y cc nL rt :: zTb) B.pre
  have hown : s.vm.findClass y.cls = some m.cls := findClass_of_methodNamed B.named
  have hlocks := B.notSynchronized
  subst hsz
  have hD := hD0.self (sz := s.heap.size)
  have hl := lv_entry (as.map (zv E.2.2.2)) (n := nL) (by rw [zlg_len]; exact hn)
  rw [lg_entry_eq]
  rw [zlv_args] at hl
  exact body (p, e, zRm d, s, m, _, below, meth, c, _, va_A (zWE E M) s.heap.size, 0, 0) ⟨B.exec, B.bytes, hml, hown, fun w hw => hts w (List.mem_cons_of_mem _ hw), hK, fun q h => Or.inr h, ⟨Nat.le_refl _, Nat.le_refl _, Nat.le_refl _, Nat.le_refl _⟩, hlocks, hNw, hEx⟩ ⟨B.returns, rfl, rfl, rfl⟩ _ _ [] hl hP hD va_S.rf
theorem CMi.of {post : Int32 → zM → Prop} (hy : plainName y.cls = true) (hn : (lg_sl as).length ≤ nL) (body : ∀ Γ : zT, Cx E Γ y.cls cc nL d → zRi E Γ rt post → G E Γ nL 0 (lv_args 0 as) [] M) : CMi E d y cc nL rt as M post :=
  fun sz => zof_aux (Qc := fun A => va_Qi post (zB E A) A) hy hn (fun Γ h1 h2 => body Γ h1 h2) sz
theorem CMl.of {post : Int64 → zM → Prop} (hy : plainName y.cls = true) (hn : (lg_sl as).length ≤ nL) (body : ∀ Γ : zT, Cx E Γ y.cls cc nL d → zRl E Γ rt post → G E Γ nL 0 (lv_args 0 as) [] M) : CMl E d y cc nL rt as M post :=
  fun sz => zof_aux (Qc := fun A => va_Ql post (zB E A) A) hy hn (fun Γ h1 h2 => body Γ h1 h2) sz
theorem CMv.of {post : zM → Prop} (hy : plainName y.cls = true) (hn : (lg_sl as).length ≤ nL) (body : ∀ Γ : zT, Cx E Γ y.cls cc nL d → zRv E Γ rt post → G E Γ nL 0 (lv_args 0 as) [] M) : CMv E d y cc nL rt as M post :=
  fun sz => zof_aux (Qc := fun A => va_Qv post (zB E A) A) hy hn (fun Γ h1 h2 => body Γ h1 h2) sz
end ZOF
