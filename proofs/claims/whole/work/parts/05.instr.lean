/-! ONE INSTRUCTION, ONE ROW -/
def zshl (x y : Int32) : Int32 := x <<< (y &&& 31)
def zshr (x y : Int32) : Int32 := x >>> (y &&& 31)
def zushr (x y : Int32) : Int32 := (x.toUInt32 >>> (y.toUInt32 &&& Int32.toUInt32 31)).toInt32
def zlshl (x : Int64) (y : Int32) : Int64 := x <<< (y.toInt64 &&& 63)
def zrem (x y : Int32) : Int32 := x - x / y * y
def zlrem (x y : Int64) : Int64 := x - x / y * y
/-- an index that lies in a row of n -/
abbrev zin (i : Int32) (n : Nat) : Prop := 0 ≤ i.toInt ∧ i.toInt < (n : Int)
theorem zin_vp {i : Int32} {n : Nat} (h : zin i n) : vp_in i n := vp_in_iff.mpr h
section ZI
variable {E : zE} {Γ : zT} {own : String} {cc : ByteArray} {nL d pc : Nat} {lv : List (Nat × Value)} {st : List Value} {M : zM}
theorem g_iconst {n : Int} {v : Int32} (h : Cx E Γ own cc nL d) (hd : decode cc pc = .ok (.iconst n, 1)) (hv : Int32.ofInt n = v) (k : G E Γ nL (pc + 1) lv (.int v :: st) M) : G E Γ nL pc lv (st) M := by
  obtain ⟨p, e, R, s, m, args, below, meth, c, Q, A, ce, sl⟩ := Γ
  intro ls H locs hl hP hD hS
  exact lv_iconst h.1 h.2.1 hd hv (k ls H locs hl hP hD hS)
theorem g_bipush {n : Int} {v : Int32} (h : Cx E Γ own cc nL d) (hd : decode cc pc = .ok (.bipush n, 2)) (hv : (Int8.ofInt n).toInt32 = v) (k : G E Γ nL (pc + 2) lv (.int v :: st) M) : G E Γ nL pc lv (st) M := by
  obtain ⟨p, e, R, s, m, args, below, meth, c, Q, A, ce, sl⟩ := Γ
  intro ls H locs hl hP hD hS
  exact lv_bipush h.1 h.2.1 hd hv (k ls H locs hl hP hD hS)
theorem g_sipush {n : Int} {v : Int32} (h : Cx E Γ own cc nL d) (hd : decode cc pc = .ok (.sipush n, 3)) (hv : (Int16.ofInt n).toInt32 = v) (k : G E Γ nL (pc + 3) lv (.int v :: st) M) : G E Γ nL pc lv (st) M := by
  obtain ⟨p, e, R, s, m, args, below, meth, c, Q, A, ce, sl⟩ := Γ
  intro ls H locs hl hP hD hS
  exact lv_sipush h.1 h.2.1 hd hv (k ls H locs hl hP hD hS)
theorem g_lconst {n : Fin 2} {v : Int64} (h : Cx E Γ own cc nL d) (hd : decode cc pc = .ok (.lconst n, 1)) (hv : Int64.ofNat (n : Nat) = v) (k : G E Γ nL (pc + 1) lv (.long v :: st) M) : G E Γ nL pc lv (st) M := by
  obtain ⟨p, e, R, s, m, args, below, meth, c, Q, A, ce, sl⟩ := Γ
  intro ls H locs hl hP hD hS
  exact lv_lconst h.1 h.2.1 hd hv (k ls H locs hl hP hD hS)
theorem g_ldc {i : Nat} {v : Int32} (h : Cx E Γ own cc nL d) (hw : Cond.constant own i v ∈ zTb) (hd : decode cc pc = .ok (.ldc i, 2)) (k : G E Γ nL (pc + 2) lv (.int v :: st) M) : G E Γ nL pc lv st M := by
  obtain ⟨p, e, R, s, m, args, below, meth, c, Q, A, ce, sl⟩ := Γ
  intro ls H locs hl hP hD hS
  exact lv_ldc h.1 h.2.1 h.2.2.2.1 (h.2.2.2.2.1 _ hw) hd (k ls H locs hl hP hD hS)
theorem g_ldc_w {i : Nat} {v : Int32} (h : Cx E Γ own cc nL d) (hw : Cond.constant own i v ∈ zTb) (hd : decode cc pc = .ok (.ldc_w i, 3)) (k : G E Γ nL (pc + 3) lv (.int v :: st) M) : G E Γ nL pc lv st M := by
  obtain ⟨p, e, R, s, m, args, below, meth, c, Q, A, ce, sl⟩ := Γ
  intro ls H locs hl hP hD hS
  exact lv_ldcw h.1 h.2.1 h.2.2.2.1 (h.2.2.2.2.1 _ hw) hd (k ls H locs hl hP hD hS)
theorem g_ldc2_w {i : Nat} {v : Int64} (h : Cx E Γ own cc nL d) (hw : Cond.constantLong own i v ∈ zTb) (hd : decode cc pc = .ok (.ldc2_w i, 3)) (k : G E Γ nL (pc + 3) lv (.long v :: st) M) : G E Γ nL pc lv st M := by
  obtain ⟨p, e, R, s, m, args, below, meth, c, Q, A, ce, sl⟩ := Γ
  intro ls H locs hl hP hD hS
  exact lv_ldc2 h.1 h.2.1 h.2.2.2.1 (h.2.2.2.2.1 _ hw) hd (k ls H locs hl hP hD hS)
theorem g_iload_n {j : Fin 4} {i : Nat} {x : Int32} (h : Cx E Γ own cc nL d) (hd : decode cc pc = .ok (.iload_n j, 1)) (hj : (j : Nat) = i) (hg : zget lv i = some (.int x)) (k : G E Γ nL (pc + 1) lv (.int x :: st) M) : G E Γ nL pc lv st M := by
  obtain ⟨p, e, R, s, m, args, below, meth, c, Q, A, ce, sl⟩ := Γ
  intro ls H locs hl hP hD hS
  exact lv_iload_n h.1 h.2.1 hd hj (zget_has hl hg) (k ls H locs hl hP hD hS)
theorem g_iload {i : Nat} {x : Int32} (h : Cx E Γ own cc nL d) (hd : decode cc pc = .ok (.iload i, 2)) (hg : zget lv i = some (.int x)) (k : G E Γ nL (pc + 2) lv (.int x :: st) M) : G E Γ nL pc lv st M := by
  obtain ⟨p, e, R, s, m, args, below, meth, c, Q, A, ce, sl⟩ := Γ
  intro ls H locs hl hP hD hS
  exact lv_iload h.1 h.2.1 hd (zget_has hl hg) (k ls H locs hl hP hD hS)
theorem g_istore_n {j : Fin 4} {i : Nat} {x : Int32} (h : Cx E Γ own cc nL d) (hd : decode cc pc = .ok (.istore_n j, 1)) (hj : (j : Nat) = i) (hn : i < nL) {lv2 : List (Nat × Value)} (hl2 : zput lv i (.int x) = lv2) (k : G E Γ nL (pc + 1) lv2 st M) : G E Γ nL pc lv (.int x :: st) M := by
  obtain ⟨p, e, R, s, m, args, below, meth, c, Q, A, ce, sl⟩ := Γ
  intro ls H locs hl hP hD hS
  exact lv_istore_n h.1 h.2.1 hd hj hl hn ((zlv_put E.2.2.2 lv i (.int x)).trans (congrArg _ hl2)) (fun ls hl => (k ls H locs hl hP hD hS))
theorem g_istore {i : Nat} {x : Int32} (h : Cx E Γ own cc nL d) (hd : decode cc pc = .ok (.istore i, 2)) (hn : i < nL) {lv2 : List (Nat × Value)} (hl2 : zput lv i (.int x) = lv2) (k : G E Γ nL (pc + 2) lv2 st M) : G E Γ nL pc lv (.int x :: st) M := by
  obtain ⟨p, e, R, s, m, args, below, meth, c, Q, A, ce, sl⟩ := Γ
  intro ls H locs hl hP hD hS
  exact lv_istore h.1 h.2.1 hd hl hn ((zlv_put E.2.2.2 lv i (.int x)).trans (congrArg _ hl2)) (fun ls hl => (k ls H locs hl hP hD hS))
theorem g_lload_n {j : Fin 4} {i : Nat} {x : Int64} (h : Cx E Γ own cc nL d) (hd : decode cc pc = .ok (.lload_n j, 1)) (hj : (j : Nat) = i) (hg : zget lv i = some (.long x)) (k : G E Γ nL (pc + 1) lv (.long x :: st) M) : G E Γ nL pc lv st M := by
  obtain ⟨p, e, R, s, m, args, below, meth, c, Q, A, ce, sl⟩ := Γ
  intro ls H locs hl hP hD hS
  exact lv_lload_n h.1 h.2.1 hd hj (zget_has hl hg) (k ls H locs hl hP hD hS)
theorem g_lload {i : Nat} {x : Int64} (h : Cx E Γ own cc nL d) (hd : decode cc pc = .ok (.lload i, 2)) (hg : zget lv i = some (.long x)) (k : G E Γ nL (pc + 2) lv (.long x :: st) M) : G E Γ nL pc lv st M := by
  obtain ⟨p, e, R, s, m, args, below, meth, c, Q, A, ce, sl⟩ := Γ
  intro ls H locs hl hP hD hS
  exact lv_lload h.1 h.2.1 hd (zget_has hl hg) (k ls H locs hl hP hD hS)
theorem g_lstore_n {j : Fin 4} {i : Nat} {x : Int64} (h : Cx E Γ own cc nL d) (hd : decode cc pc = .ok (.lstore_n j, 1)) (hj : (j : Nat) = i) (hn : i + 1 < nL) {lv2 : List (Nat × Value)} (hl2 : zput2 lv i (.long x) = lv2) (k : G E Γ nL (pc + 1) lv2 st M) : G E Γ nL pc lv (.long x :: st) M := by
  obtain ⟨p, e, R, s, m, args, below, meth, c, Q, A, ce, sl⟩ := Γ
  intro ls H locs hl hP hD hS
  exact lv_lstore_n h.1 h.2.1 hd hj hl hn ((zlv_put2 E.2.2.2 lv i (.long x)).trans (congrArg _ hl2)) (fun ls hl => (k ls H locs hl hP hD hS))
theorem g_lstore {i : Nat} {x : Int64} (h : Cx E Γ own cc nL d) (hd : decode cc pc = .ok (.lstore i, 2)) (hn : i + 1 < nL) {lv2 : List (Nat × Value)} (hl2 : zput2 lv i (.long x) = lv2) (k : G E Γ nL (pc + 2) lv2 st M) : G E Γ nL pc lv (.long x :: st) M := by
  obtain ⟨p, e, R, s, m, args, below, meth, c, Q, A, ce, sl⟩ := Γ
  intro ls H locs hl hP hD hS
  exact lv_lstore h.1 h.2.1 hd hl hn ((zlv_put2 E.2.2.2 lv i (.long x)).trans (congrArg _ hl2)) (fun ls hl => (k ls H locs hl hP hD hS))
theorem g_aload_n {j : Fin 4} {i : Nat} {x : Nat} (h : Cx E Γ own cc nL d) (hd : decode cc pc = .ok (.aload_n j, 1)) (hj : (j : Nat) = i) (hg : zget lv i = some (.ref x)) (k : G E Γ nL (pc + 1) lv (.ref x :: st) M) : G E Γ nL pc lv st M := by
  obtain ⟨p, e, R, s, m, args, below, meth, c, Q, A, ce, sl⟩ := Γ
  intro ls H locs hl hP hD hS
  exact lv_aload_n h.1 h.2.1 hd hj (zget_has hl hg) (k ls H locs hl hP hD hS)
theorem g_aload {i : Nat} {x : Nat} (h : Cx E Γ own cc nL d) (hd : decode cc pc = .ok (.aload i, 2)) (hg : zget lv i = some (.ref x)) (k : G E Γ nL (pc + 2) lv (.ref x :: st) M) : G E Γ nL pc lv st M := by
  obtain ⟨p, e, R, s, m, args, below, meth, c, Q, A, ce, sl⟩ := Γ
  intro ls H locs hl hP hD hS
  exact lv_aload h.1 h.2.1 hd (zget_has hl hg) (k ls H locs hl hP hD hS)
theorem g_astore_n {j : Fin 4} {i : Nat} {x : Nat} (h : Cx E Γ own cc nL d) (hd : decode cc pc = .ok (.astore_n j, 1)) (hj : (j : Nat) = i) (hn : i < nL) {lv2 : List (Nat × Value)} (hl2 : zput lv i (.ref x) = lv2) (k : G E Γ nL (pc + 1) lv2 st M) : G E Γ nL pc lv (.ref x :: st) M := by
  obtain ⟨p, e, R, s, m, args, below, meth, c, Q, A, ce, sl⟩ := Γ
  intro ls H locs hl hP hD hS
  exact lv_astore_n h.1 h.2.1 hd hj hl hn ((zlv_put E.2.2.2 lv i (.ref x)).trans (congrArg _ hl2)) (fun ls hl => (k ls H locs hl hP hD hS))
theorem g_astore {i : Nat} {x : Nat} (h : Cx E Γ own cc nL d) (hd : decode cc pc = .ok (.astore i, 2)) (hn : i < nL) {lv2 : List (Nat × Value)} (hl2 : zput lv i (.ref x) = lv2) (k : G E Γ nL (pc + 2) lv2 st M) : G E Γ nL pc lv (.ref x :: st) M := by
  obtain ⟨p, e, R, s, m, args, below, meth, c, Q, A, ce, sl⟩ := Γ
  intro ls H locs hl hP hD hS
  exact lv_astore h.1 h.2.1 hd hl hn ((zlv_put E.2.2.2 lv i (.ref x)).trans (congrArg _ hl2)) (fun ls hl => (k ls H locs hl hP hD hS))
theorem g_iinc {i : Nat} {n : Int} {x v : Int32} (h : Cx E Γ own cc nL d) (hd : decode cc pc = .ok (.iinc i n, 3)) (hg : zget lv i = some (.int x)) (hv : x + Int32.ofInt n = v) (hn : i < nL) {lv2 : List (Nat × Value)} (hl2 : zput lv i (.int v) = lv2) (k : G E Γ nL (pc + 3) lv2 st M) : G E Γ nL pc lv st M := by
  obtain ⟨p, e, R, s, m, args, below, meth, c, Q, A, ce, sl⟩ := Γ
  intro ls H locs hl hP hD hS
  have h1 := zget_has hl hg
  have hl3 : lv_has ls nL ((i, .int x) :: zlv E.2.2.2 lv) := ⟨hl.1, hl.2.1, fun q hq => (List.mem_cons.mp hq).elim (fun z => by rw [z]; exact h1) (hl.2.2 q)⟩
  refine lv_iinc (k := 0) h.1 h.2.1 hd hl3 rfl hv hn ?_ (fun ls hl => (k ls H locs hl hP hD hS))
  rw [← hl2, ← zlv_put]
  show _ :: List.filter _ ((i, Value.int x) :: zlv E.2.2.2 lv) = _
  rw [List.filter_cons]
  simp
  rfl
theorem g_dup {v : Value} (h : Cx E Γ own cc nL d) (hd : decode cc pc = .ok (.dup, 1)) (hc : v.category = 1) (k : G E Γ nL (pc + 1) lv (v :: v :: st) M) : G E Γ nL pc lv (v :: st) M := by
  obtain ⟨p, e, R, s, m, args, below, meth, c, Q, A, ce, sl⟩ := Γ
  intro ls H locs hl hP hD hS
  exact lv_dup h.1 h.2.1 hd (by rw [zv_cat]; exact hc) (k ls H locs hl hP hD hS)
theorem g_pop {v : Value} (h : Cx E Γ own cc nL d) (hd : decode cc pc = .ok (.pop, 1)) (hc : v.category = 1) (k : G E Γ nL (pc + 1) lv st M) : G E Γ nL pc lv (v :: st) M := by
  obtain ⟨p, e, R, s, m, args, below, meth, c, Q, A, ce, sl⟩ := Γ
  intro ls H locs hl hP hD hS
  exact lv_pop h.1 h.2.1 hd (va := zv E.2.2.2 v) (by rw [zv_cat]; exact hc) (k ls H locs hl hP hD hS)
theorem g_dup_x1 {v w : Value} (h : Cx E Γ own cc nL d) (hd : decode cc pc = .ok (.dup_x1, 1)) (hc : v.category = 1) (hc2 : w.category = 1) (k : G E Γ nL (pc + 1) lv (v :: w :: v :: st) M) : G E Γ nL pc lv (v :: w :: st) M := by
  obtain ⟨p, e, R, s, m, args, below, meth, c, Q, A, ce, sl⟩ := Γ
  intro ls H locs hl hP hD hS
  exact lv_dup_x1 h.1 h.2.1 hd (by rw [zv_cat]; exact hc) (by rw [zv_cat]; exact hc2) (k ls H locs hl hP hD hS)
theorem g_dup2 {v w : Value} (h : Cx E Γ own cc nL d) (hd : decode cc pc = .ok (.dup2, 1)) (hc : v.category = 1) (hc2 : w.category = 1) (k : G E Γ nL (pc + 1) lv (v :: w :: v :: w :: st) M) : G E Γ nL pc lv (v :: w :: st) M := by
  obtain ⟨p, e, R, s, m, args, below, meth, c, Q, A, ce, sl⟩ := Γ
  intro ls H locs hl hP hD hS
  exact lv_dup2_11 h.1 h.2.1 hd (by rw [zv_cat]; exact hc) (by rw [zv_cat]; exact hc2) (k ls H locs hl hP hD hS)
theorem g_iadd {x y : Int32} (h : Cx E Γ own cc nL d) (hd : decode cc pc = .ok (.iadd, 1)) (k : G E Γ nL (pc + 1) lv (.int (x + y) :: st) M) : G E Γ nL pc lv (.int y :: .int x :: st) M := by
  obtain ⟨p, e, R, s, m, args, below, meth, c, Q, A, ce, sl⟩ := Γ
  intro ls H locs hl hP hD hS
  exact lv_iadd h.1 h.2.1 hd (k ls H locs hl hP hD hS)
theorem g_isub {x y : Int32} (h : Cx E Γ own cc nL d) (hd : decode cc pc = .ok (.isub, 1)) (k : G E Γ nL (pc + 1) lv (.int (x - y) :: st) M) : G E Γ nL pc lv (.int y :: .int x :: st) M := by
  obtain ⟨p, e, R, s, m, args, below, meth, c, Q, A, ce, sl⟩ := Γ
  intro ls H locs hl hP hD hS
  exact lv_isub h.1 h.2.1 hd (k ls H locs hl hP hD hS)
theorem g_imul {x y : Int32} (h : Cx E Γ own cc nL d) (hd : decode cc pc = .ok (.imul, 1)) (k : G E Γ nL (pc + 1) lv (.int (x * y) :: st) M) : G E Γ nL pc lv (.int y :: .int x :: st) M := by
  obtain ⟨p, e, R, s, m, args, below, meth, c, Q, A, ce, sl⟩ := Γ
  intro ls H locs hl hP hD hS
  exact lv_imul h.1 h.2.1 hd (k ls H locs hl hP hD hS)
theorem g_iand {x y : Int32} (h : Cx E Γ own cc nL d) (hd : decode cc pc = .ok (.iand, 1)) (k : G E Γ nL (pc + 1) lv (.int (x &&& y) :: st) M) : G E Γ nL pc lv (.int y :: .int x :: st) M := by
  obtain ⟨p, e, R, s, m, args, below, meth, c, Q, A, ce, sl⟩ := Γ
  intro ls H locs hl hP hD hS
  exact lv_iand h.1 h.2.1 hd (k ls H locs hl hP hD hS)
theorem g_ior {x y : Int32} (h : Cx E Γ own cc nL d) (hd : decode cc pc = .ok (.ior, 1)) (k : G E Γ nL (pc + 1) lv (.int (x ||| y) :: st) M) : G E Γ nL pc lv (.int y :: .int x :: st) M := by
  obtain ⟨p, e, R, s, m, args, below, meth, c, Q, A, ce, sl⟩ := Γ
  intro ls H locs hl hP hD hS
  exact lv_ior h.1 h.2.1 hd (k ls H locs hl hP hD hS)
theorem g_ixor {x y : Int32} (h : Cx E Γ own cc nL d) (hd : decode cc pc = .ok (.ixor, 1)) (k : G E Γ nL (pc + 1) lv (.int (x ^^^ y) :: st) M) : G E Γ nL pc lv (.int y :: .int x :: st) M := by
  obtain ⟨p, e, R, s, m, args, below, meth, c, Q, A, ce, sl⟩ := Γ
  intro ls H locs hl hP hD hS
  exact lv_ixor h.1 h.2.1 hd (k ls H locs hl hP hD hS)
theorem g_ishl {x y : Int32} (h : Cx E Γ own cc nL d) (hd : decode cc pc = .ok (.ishl, 1)) (k : G E Γ nL (pc + 1) lv (.int (zshl x y) :: st) M) : G E Γ nL pc lv (.int y :: .int x :: st) M := by
  obtain ⟨p, e, R, s, m, args, below, meth, c, Q, A, ce, sl⟩ := Γ
  intro ls H locs hl hP hD hS
  exact lv_ishl h.1 h.2.1 hd (k ls H locs hl hP hD hS)
theorem g_ishr {x y : Int32} (h : Cx E Γ own cc nL d) (hd : decode cc pc = .ok (.ishr, 1)) (k : G E Γ nL (pc + 1) lv (.int (zshr x y) :: st) M) : G E Γ nL pc lv (.int y :: .int x :: st) M := by
  obtain ⟨p, e, R, s, m, args, below, meth, c, Q, A, ce, sl⟩ := Γ
  intro ls H locs hl hP hD hS
  exact lv_ishr h.1 h.2.1 hd (k ls H locs hl hP hD hS)
theorem g_iushr {x y : Int32} (h : Cx E Γ own cc nL d) (hd : decode cc pc = .ok (.iushr, 1)) (k : G E Γ nL (pc + 1) lv (.int (zushr x y) :: st) M) : G E Γ nL pc lv (.int y :: .int x :: st) M := by
  obtain ⟨p, e, R, s, m, args, below, meth, c, Q, A, ce, sl⟩ := Γ
  intro ls H locs hl hP hD hS
  exact lv_iushr h.1 h.2.1 hd rfl (k ls H locs hl hP hD hS)
theorem g_idiv {x y : Int32} (h : Cx E Γ own cc nL d) (hd : decode cc pc = .ok (.idiv, 1)) (hne : ¬ y = 0) (k : G E Γ nL (pc + 1) lv (.int (x / y) :: st) M) : G E Γ nL pc lv (.int y :: .int x :: st) M := by
  obtain ⟨p, e, R, s, m, args, below, meth, c, Q, A, ce, sl⟩ := Γ
  intro ls H locs hl hP hD hS
  exact lv_idiv h.1 h.2.1 hd hne (k ls H locs hl hP hD hS)
theorem g_irem {x y : Int32} (h : Cx E Γ own cc nL d) (hd : decode cc pc = .ok (.irem, 1)) (hne : ¬ y = 0) (k : G E Γ nL (pc + 1) lv (.int (zrem x y) :: st) M) : G E Γ nL pc lv (.int y :: .int x :: st) M := by
  obtain ⟨p, e, R, s, m, args, below, meth, c, Q, A, ce, sl⟩ := Γ
  intro ls H locs hl hP hD hS
  exact lv_irem h.1 h.2.1 hd hne (k ls H locs hl hP hD hS)
theorem g_ldiv {x y : Int64} (h : Cx E Γ own cc nL d) (hd : decode cc pc = .ok (.ldiv, 1)) (hne : ¬ y = 0) (k : G E Γ nL (pc + 1) lv (.long (x / y) :: st) M) : G E Γ nL pc lv (.long y :: .long x :: st) M := by
  obtain ⟨p, e, R, s, m, args, below, meth, c, Q, A, ce, sl⟩ := Γ
  intro ls H locs hl hP hD hS
  exact lv_ldiv h.1 h.2.1 hd hne (k ls H locs hl hP hD hS)
theorem g_lrem {x y : Int64} (h : Cx E Γ own cc nL d) (hd : decode cc pc = .ok (.lrem, 1)) (hne : ¬ y = 0) (k : G E Γ nL (pc + 1) lv (.long (zlrem x y) :: st) M) : G E Γ nL pc lv (.long y :: .long x :: st) M := by
  obtain ⟨p, e, R, s, m, args, below, meth, c, Q, A, ce, sl⟩ := Γ
  intro ls H locs hl hP hD hS
  exact lv_lrem h.1 h.2.1 hd hne (k ls H locs hl hP hD hS)
theorem g_ladd {x y : Int64} (h : Cx E Γ own cc nL d) (hd : decode cc pc = .ok (.ladd, 1)) (k : G E Γ nL (pc + 1) lv (.long (x + y) :: st) M) : G E Γ nL pc lv (.long y :: .long x :: st) M := by
  obtain ⟨p, e, R, s, m, args, below, meth, c, Q, A, ce, sl⟩ := Γ
  intro ls H locs hl hP hD hS
  exact lv_ladd h.1 h.2.1 hd (k ls H locs hl hP hD hS)
theorem g_lsub {x y : Int64} (h : Cx E Γ own cc nL d) (hd : decode cc pc = .ok (.lsub, 1)) (k : G E Γ nL (pc + 1) lv (.long (x - y) :: st) M) : G E Γ nL pc lv (.long y :: .long x :: st) M := by
  obtain ⟨p, e, R, s, m, args, below, meth, c, Q, A, ce, sl⟩ := Γ
  intro ls H locs hl hP hD hS
  exact lv_lsub h.1 h.2.1 hd (k ls H locs hl hP hD hS)
theorem g_lmul {x y : Int64} (h : Cx E Γ own cc nL d) (hd : decode cc pc = .ok (.lmul, 1)) (k : G E Γ nL (pc + 1) lv (.long (x * y) :: st) M) : G E Γ nL pc lv (.long y :: .long x :: st) M := by
  obtain ⟨p, e, R, s, m, args, below, meth, c, Q, A, ce, sl⟩ := Γ
  intro ls H locs hl hP hD hS
  exact lv_lmul h.1 h.2.1 hd (k ls H locs hl hP hD hS)
theorem g_ineg {x : Int32} (h : Cx E Γ own cc nL d) (hd : decode cc pc = .ok (.ineg, 1)) (k : G E Γ nL (pc + 1) lv (.int (-x) :: st) M) : G E Γ nL pc lv (.int x :: st) M := by
  obtain ⟨p, e, R, s, m, args, below, meth, c, Q, A, ce, sl⟩ := Γ
  intro ls H locs hl hP hD hS
  exact lv_ineg h.1 h.2.1 hd (k ls H locs hl hP hD hS)
theorem g_lshl {x : Int64} {y : Int32} (h : Cx E Γ own cc nL d) (hd : decode cc pc = .ok (.lshl, 1)) (k : G E Γ nL (pc + 1) lv (.long (zlshl x y) :: st) M) : G E Γ nL pc lv (.int y :: .long x :: st) M := by
  obtain ⟨p, e, R, s, m, args, below, meth, c, Q, A, ce, sl⟩ := Γ
  intro ls H locs hl hP hD hS
  exact lv_lshl h.1 h.2.1 hd rfl (k ls H locs hl hP hD hS)
theorem g_i2l {x : Int32} (h : Cx E Γ own cc nL d) (hd : decode cc pc = .ok (.i2l, 1)) (k : G E Γ nL (pc + 1) lv (.long x.toInt64 :: st) M) : G E Γ nL pc lv (.int x :: st) M := by
  obtain ⟨p, e, R, s, m, args, below, meth, c, Q, A, ce, sl⟩ := Γ
  intro ls H locs hl hP hD hS
  exact lv_i2l h.1 h.2.1 hd rfl (k ls H locs hl hP hD hS)
theorem g_i2b {x : Int32} (h : Cx E Γ own cc nL d) (hd : decode cc pc = .ok (.i2b, 1)) (k : G E Γ nL (pc + 1) lv (.int x.toInt8.toInt32 :: st) M) : G E Γ nL pc lv (.int x :: st) M := by
  obtain ⟨p, e, R, s, m, args, below, meth, c, Q, A, ce, sl⟩ := Γ
  intro ls H locs hl hP hD hS
  exact lv_i2b h.1 h.2.1 hd rfl (k ls H locs hl hP hD hS)
theorem g_i2s {x : Int32} (h : Cx E Γ own cc nL d) (hd : decode cc pc = .ok (.i2s, 1)) (k : G E Γ nL (pc + 1) lv (.int x.toInt16.toInt32 :: st) M) : G E Γ nL pc lv (.int x :: st) M := by
  obtain ⟨p, e, R, s, m, args, below, meth, c, Q, A, ce, sl⟩ := Γ
  intro ls H locs hl hP hD hS
  exact lv_i2s h.1 h.2.1 hd rfl (k ls H locs hl hP hD hS)
theorem g_lcmp {x y : Int64} (h : Cx E Γ own cc nL d) (hd : decode cc pc = .ok (.lcmp, 1)) (k : G E Γ nL (pc + 1) lv (.int (lg_cmp x y) :: st) M) : G E Γ nL pc lv (.long y :: .long x :: st) M := by
  obtain ⟨p, e, R, s, m, args, below, meth, c, Q, A, ce, sl⟩ := Γ
  intro ls H locs hl hP hD hS
  exact W.lcmp h.1 h.2.1 hd (k ls H locs hl hP hD hS)
theorem g_goto {off : Int} {tgt : Nat} (h : Cx E Γ own cc nL d) (hd : decode cc pc = .ok (.goto off, 3)) (ht : (pc : Int) + off = (tgt : Int)) (k : G E Γ nL tgt lv st M) : G E Γ nL pc lv st M := by
  obtain ⟨p, e, R, s, m, args, below, meth, c, Q, A, ce, sl⟩ := Γ
  intro ls H locs hl hP hD hS
  exact lv_goto h.1 h.2.1 hd ht (k ls H locs hl hP hD hS)
theorem g_icmp_eq {x y : Int32} {off : Int} {tgt : Nat} (h : Cx E Γ own cc nL d) (hd : decode cc pc = .ok (.if_icmp .eq off, 3)) (ht : (pc : Int) + off = (tgt : Int)) (kt : x = y → G E Γ nL tgt lv st M) (kf : ¬ (x = y) → G E Γ nL (pc + 3) lv st M) : G E Γ nL pc lv (.int y :: .int x :: st) M := by
  obtain ⟨p, e, R, s, m, args, below, meth, c, Q, A, ce, sl⟩ := Γ
  intro ls H locs hl hP hD hS
  exact lv_icmp_eq h.1 h.2.1 hd ht (fun q => kt q ls H locs hl hP hD hS) (fun q => kf q ls H locs hl hP hD hS)
theorem g_if_eq {x : Int32} {off : Int} {tgt : Nat} (h : Cx E Γ own cc nL d) (hd : decode cc pc = .ok (.ifCond .eq off, 3)) (ht : (pc : Int) + off = (tgt : Int)) (kt : x = 0 → G E Γ nL tgt lv st M) (kf : ¬ (x = 0) → G E Γ nL (pc + 3) lv st M) : G E Γ nL pc lv (.int x :: st) M := by
  obtain ⟨p, e, R, s, m, args, below, meth, c, Q, A, ce, sl⟩ := Γ
  intro ls H locs hl hP hD hS
  exact lv_if_eq h.1 h.2.1 hd ht (fun q => kt q ls H locs hl hP hD hS) (fun q => kf q ls H locs hl hP hD hS)
theorem g_icmp_ne {x y : Int32} {off : Int} {tgt : Nat} (h : Cx E Γ own cc nL d) (hd : decode cc pc = .ok (.if_icmp .ne off, 3)) (ht : (pc : Int) + off = (tgt : Int)) (kt : ¬ x = y → G E Γ nL tgt lv st M) (kf : x = y → G E Γ nL (pc + 3) lv st M) : G E Γ nL pc lv (.int y :: .int x :: st) M := by
  obtain ⟨p, e, R, s, m, args, below, meth, c, Q, A, ce, sl⟩ := Γ
  intro ls H locs hl hP hD hS
  exact lv_icmp_ne h.1 h.2.1 hd ht (fun q => kt q ls H locs hl hP hD hS) (fun q => kf q ls H locs hl hP hD hS)
theorem g_if_ne {x : Int32} {off : Int} {tgt : Nat} (h : Cx E Γ own cc nL d) (hd : decode cc pc = .ok (.ifCond .ne off, 3)) (ht : (pc : Int) + off = (tgt : Int)) (kt : ¬ x = 0 → G E Γ nL tgt lv st M) (kf : x = 0 → G E Γ nL (pc + 3) lv st M) : G E Γ nL pc lv (.int x :: st) M := by
  obtain ⟨p, e, R, s, m, args, below, meth, c, Q, A, ce, sl⟩ := Γ
  intro ls H locs hl hP hD hS
  exact lv_if_ne h.1 h.2.1 hd ht (fun q => kt q ls H locs hl hP hD hS) (fun q => kf q ls H locs hl hP hD hS)
theorem g_icmp_lt {x y : Int32} {off : Int} {tgt : Nat} (h : Cx E Γ own cc nL d) (hd : decode cc pc = .ok (.if_icmp .lt off, 3)) (ht : (pc : Int) + off = (tgt : Int)) (kt : x < y → G E Γ nL tgt lv st M) (kf : ¬ (x < y) → G E Γ nL (pc + 3) lv st M) : G E Γ nL pc lv (.int y :: .int x :: st) M := by
  obtain ⟨p, e, R, s, m, args, below, meth, c, Q, A, ce, sl⟩ := Γ
  intro ls H locs hl hP hD hS
  exact lv_icmp_lt h.1 h.2.1 hd ht (fun q => kt q ls H locs hl hP hD hS) (fun q => kf q ls H locs hl hP hD hS)
theorem g_if_lt {x : Int32} {off : Int} {tgt : Nat} (h : Cx E Γ own cc nL d) (hd : decode cc pc = .ok (.ifCond .lt off, 3)) (ht : (pc : Int) + off = (tgt : Int)) (kt : x < 0 → G E Γ nL tgt lv st M) (kf : ¬ (x < 0) → G E Γ nL (pc + 3) lv st M) : G E Γ nL pc lv (.int x :: st) M := by
  obtain ⟨p, e, R, s, m, args, below, meth, c, Q, A, ce, sl⟩ := Γ
  intro ls H locs hl hP hD hS
  exact lv_if_lt h.1 h.2.1 hd ht (fun q => kt q ls H locs hl hP hD hS) (fun q => kf q ls H locs hl hP hD hS)
theorem g_icmp_ge {x y : Int32} {off : Int} {tgt : Nat} (h : Cx E Γ own cc nL d) (hd : decode cc pc = .ok (.if_icmp .ge off, 3)) (ht : (pc : Int) + off = (tgt : Int)) (kt : y ≤ x → G E Γ nL tgt lv st M) (kf : ¬ (y ≤ x) → G E Γ nL (pc + 3) lv st M) : G E Γ nL pc lv (.int y :: .int x :: st) M := by
  obtain ⟨p, e, R, s, m, args, below, meth, c, Q, A, ce, sl⟩ := Γ
  intro ls H locs hl hP hD hS
  exact lv_icmp_ge h.1 h.2.1 hd ht (fun q => kt q ls H locs hl hP hD hS) (fun q => kf q ls H locs hl hP hD hS)
theorem g_if_ge {x : Int32} {off : Int} {tgt : Nat} (h : Cx E Γ own cc nL d) (hd : decode cc pc = .ok (.ifCond .ge off, 3)) (ht : (pc : Int) + off = (tgt : Int)) (kt : 0 ≤ x → G E Γ nL tgt lv st M) (kf : ¬ (0 ≤ x) → G E Γ nL (pc + 3) lv st M) : G E Γ nL pc lv (.int x :: st) M := by
  obtain ⟨p, e, R, s, m, args, below, meth, c, Q, A, ce, sl⟩ := Γ
  intro ls H locs hl hP hD hS
  exact lv_if_ge h.1 h.2.1 hd ht (fun q => kt q ls H locs hl hP hD hS) (fun q => kf q ls H locs hl hP hD hS)
theorem g_icmp_gt {x y : Int32} {off : Int} {tgt : Nat} (h : Cx E Γ own cc nL d) (hd : decode cc pc = .ok (.if_icmp .gt off, 3)) (ht : (pc : Int) + off = (tgt : Int)) (kt : y < x → G E Γ nL tgt lv st M) (kf : ¬ (y < x) → G E Γ nL (pc + 3) lv st M) : G E Γ nL pc lv (.int y :: .int x :: st) M := by
  obtain ⟨p, e, R, s, m, args, below, meth, c, Q, A, ce, sl⟩ := Γ
  intro ls H locs hl hP hD hS
  exact lv_icmp_gt h.1 h.2.1 hd ht (fun q => kt q ls H locs hl hP hD hS) (fun q => kf q ls H locs hl hP hD hS)
theorem g_if_gt {x : Int32} {off : Int} {tgt : Nat} (h : Cx E Γ own cc nL d) (hd : decode cc pc = .ok (.ifCond .gt off, 3)) (ht : (pc : Int) + off = (tgt : Int)) (kt : 0 < x → G E Γ nL tgt lv st M) (kf : ¬ (0 < x) → G E Γ nL (pc + 3) lv st M) : G E Γ nL pc lv (.int x :: st) M := by
  obtain ⟨p, e, R, s, m, args, below, meth, c, Q, A, ce, sl⟩ := Γ
  intro ls H locs hl hP hD hS
  exact lv_if_gt h.1 h.2.1 hd ht (fun q => kt q ls H locs hl hP hD hS) (fun q => kf q ls H locs hl hP hD hS)
theorem g_icmp_le {x y : Int32} {off : Int} {tgt : Nat} (h : Cx E Γ own cc nL d) (hd : decode cc pc = .ok (.if_icmp .le off, 3)) (ht : (pc : Int) + off = (tgt : Int)) (kt : x ≤ y → G E Γ nL tgt lv st M) (kf : ¬ (x ≤ y) → G E Γ nL (pc + 3) lv st M) : G E Γ nL pc lv (.int y :: .int x :: st) M := by
  obtain ⟨p, e, R, s, m, args, below, meth, c, Q, A, ce, sl⟩ := Γ
  intro ls H locs hl hP hD hS
  exact lv_icmp_le h.1 h.2.1 hd ht (fun q => kt q ls H locs hl hP hD hS) (fun q => kf q ls H locs hl hP hD hS)
theorem g_if_le {x : Int32} {off : Int} {tgt : Nat} (h : Cx E Γ own cc nL d) (hd : decode cc pc = .ok (.ifCond .le off, 3)) (ht : (pc : Int) + off = (tgt : Int)) (kt : x ≤ 0 → G E Γ nL tgt lv st M) (kf : ¬ (x ≤ 0) → G E Γ nL (pc + 3) lv st M) : G E Γ nL pc lv (.int x :: st) M := by
  obtain ⟨p, e, R, s, m, args, below, meth, c, Q, A, ce, sl⟩ := Γ
  intro ls H locs hl hP hD hS
  exact lv_if_le h.1 h.2.1 hd ht (fun q => kt q ls H locs hl hP hD hS) (fun q => kf q ls H locs hl hP hD hS)
theorem g_tswOut {dflt lo hi : Int} {offs : Array Int} {len : Nat} {x : Int32} {tgt : Nat} (h : Cx E Γ own cc nL d) (hd : decode cc pc = .ok (.tableswitch dflt lo hi offs, len)) (hx : x.toInt < lo ∨ hi < x.toInt) (ht : (pc : Int) + dflt = (tgt : Int)) (k : G E Γ nL tgt lv st M) : G E Γ nL pc lv (.int x :: st) M := by
  obtain ⟨p, e, R, s, m, args, below, meth, c, Q, A, ce, sl⟩ := Γ
  intro ls H locs hl hP hD hS
  exact lv_tableOut h.1 h.2.1 hd hx ht (k ls H locs hl hP hD hS)
theorem g_tswIn {dflt lo hi : Int} {offs : Array Int} {len : Nat} {x : Int32} {off : Int} {tgt : Nat} (h : Cx E Γ own cc nL d) (hd : decode cc pc = .ok (.tableswitch dflt lo hi offs, len)) (v : Int32) (hx : x = v) (h1 : ¬ v.toInt < lo) (h2 : ¬ hi < v.toInt) (ho : offs[(v.toInt - lo).toNat]? = some off) (ht : (pc : Int) + off = (tgt : Int)) (k : G E Γ nL tgt lv st M) : G E Γ nL pc lv (.int x :: st) M := by
  obtain ⟨p, e, R, s, m, args, below, meth, c, Q, A, ce, sl⟩ := Γ
  intro ls H locs hl hP hD hS
  subst hx
  exact lv_tableIn h.1 h.2.1 hd h1 h2 ho ht (k ls H locs hl hP hD hS)
theorem g_lsw {dflt : Int} {ps : Array (Int × Int)} {len : Nat} {x : Int32} {off : Int} {tgt : Nat} (h : Cx E Γ own cc nL d) (hd : decode cc pc = .ok (.lookupswitch dflt ps, len)) (hp : (ps.toList.zip (ps.toList.drop 1)).all (fun (a, next) => a.1 < next.1) = true) (ho : Op.lookupswitch.offset ps.toList dflt x.toInt = off) (ht : (pc : Int) + off = (tgt : Int)) (k : G E Γ nL tgt lv st M) : G E Γ nL pc lv (.int x :: st) M := by
  obtain ⟨p, e, R, s, m, args, below, meth, c, Q, A, ce, sl⟩ := Γ
  intro ls H locs hl hP hD hS
  exact lv_lookup h.1 h.2.1 hd hp ho ht (k ls H locs hl hP hD hS)
theorem g_sub {lv' : List (Nat × Value)} (ks : List Nat) (hs : lv_pick lv ks = lv') (k : G E Γ nL pc lv' st M) : G E Γ nL pc lv st M := by
  obtain ⟨p, e, R, s, m, args, below, meth, c, Q, A, ce, sl⟩ := Γ
  intro ls H locs hl hP hD hS
  refine k ls H locs ⟨hl.1, hl.2.1, fun q hq => ?_⟩ hP hD hS
  rw [← hs] at hq
  obtain ⟨q0, h0, rfl⟩ := List.mem_map.mp hq
  obtain ⟨i, -, hi⟩ := List.mem_filterMap.mp h0
  exact hl.2.2 _ (List.mem_map.mpr ⟨q0, List.mem_of_getElem? hi, rfl⟩)
theorem g_nmi {x : Int32} (k : ∀ y : Int32, y = x → G E Γ nL pc lv (.int y :: st) M) : G E Γ nL pc lv (.int x :: st) M := k x rfl
theorem g_nml {x : Int64} (k : ∀ y : Int64, y = x → G E Γ nL pc lv (.long y :: st) M) : G E Γ nL pc lv (.long x :: st) M := k x rfl
theorem g_nmM (k : ∀ N : zM, N = M → G E Γ nL pc lv st N) : G E Γ nL pc lv st M := k M rfl
theorem g_at {pc2 : Nat} (hp : pc = pc2) (k : G E Γ nL pc2 lv st M) : G E Γ nL pc lv st M := hp ▸ k
/-- a field's link: by its own class, or by a nest mate -/
def zFl (own : String) (idx c j : Nat) : Prop := ∃ C T N, vwCl[c]? = some (C, T, N) ∧ j < N ∧ (∀ w ∈ u_ws C T N, w ∈ zTb) ∧ (Cond.fieldLink own idx (T j).1 (T j).2.1 (T j).2.2.1 ∈ zTb ∨ ∃ host, (own, idx, (T j).1, (T j).2.1, (T j).2.2.1, host) ∈ zNF)
def zFp (own : String) (idx c j : Nat) (ty : FieldType) : Prop := ∃ (C : String) (T : u_T) (N : Nat) (t0 : Nat → FieldType), vwCl[c]? = some (C, T, N) ∧ j < N ∧ (∀ w ∈ u_ws C T N, w ∈ zTb) ∧ (Cond.fieldLink own idx (T j).1 (T j).2.1 (T j).2.2.1 ∈ zTb ∨ ∃ host, (own, idx, (T j).1, (T j).2.1, (T j).2.2.1, host) ∈ zNF) ∧ (∀ k, k < N → parseFieldDescriptor (T k).2.2.1 = some (t0 k)) ∧ (∀ a, a < N → ∀ b, b < N → a ≠ b → (T a).2.1 ≠ (T b).2.1) ∧ (T j).2.2.2 = false ∧ parseFieldDescriptor (T j).2.2.1 = some ty
theorem zCl_lt {c : Nat} {q : vw_C} (h : vwCl[c]? = some q) : c < 13 := (List.getElem?_eq_some_iff.mp h).1
theorem zObj_lt {k c : Nat} {q : vw_C} (hk : zSH k = .inl c) (h : vwCl[c]? = some q) : k < 145 := zSH_lt (by
  rw [hk]
  intro z
  cases z
  have := zCl_lt h
  omega)
theorem zFK_lt {c j : Nat} (h : zFK c j ≠ 9) : j < zNf c := by
  unfold zFK at h
  unfold zNf
  rcases Nat.lt_or_ge j (zKL.getD c []).length with q | q
  · exact q
  · exact absurd (by rw [List.getD_eq_getElem?_getD, List.getElem?_eq_none q]; rfl) h
theorem g_getf {idx c j k : Nat} {v : Value} (h : Cx E Γ own cc nL d) (hf : zFl own idx c j) (hd : decode cc pc = .ok (.getfield idx, 3)) (hk : zSH k = .inl c) (hj : j < zNf c) (hv : zFV E.2.2.2 M c k j = zv E.2.2.2 v) (kk : G E Γ nL (pc + 3) lv (v :: st) M) : G E Γ nL pc lv (.ref k :: st) M := by
  obtain ⟨p, e, R, s, m, args, below, meth, c1, Q, A, ce, sl⟩ := Γ
  obtain ⟨C, T, N, hc, hjN, hin, hlk⟩ := hf
  intro ls H locs hl hP hD hS
  have he : (zWE E M)[k]? = some (E.2.2.2 k, .inr (c, (List.range (zNf c)).map (zFV E.2.2.2 M c k))) := by rw [zW_get _ _ _ (zObj_lt hk hc), zC_obj hk]
  have hv2 : ((List.range (zNf c)).map (zFV E.2.2.2 M c k))[j]? = some (zv E.2.2.2 v) := by simp [hj, hv]
  rcases hlk with hlk | ⟨host, hlk⟩
  · exact va_get h.1 h.2.1 h.2.2.2.2.1 hin h.2.2.2.1 h.2.2.2.2.2.1 hP k he hc j hjN (h.2.2.2.2.1 _ hlk) (fun _ h9 => h9) hv2 hd (kk ls H locs hl hP hD hS)
  · exact va_getN h.1 h.2.1 h.2.2.2.2.1 hin h.2.2.2.1 h.2.2.2.2.2.1 hP k he hc j hjN (va_Nw.use rfl (h.2.2.2.2.2.2.2.2.2.1.1 _ hlk)) (fun _ h9 => h9) hv2 hd (kk ls H locs hl hP hD hS)
theorem g_getI {idx c j k : Nat} (h : Cx E Γ own cc nL d) (hf : zFl own idx c j) (hd : decode cc pc = .ok (.getfield idx, 3)) (hk : zSH k = .inl c) (hj : zFK c j = 0) (kk : G E Γ nL (pc + 3) lv (.int (M.1 k j) :: st) M) : G E Γ nL pc lv (.ref k :: st) M :=
  g_getf h hf hd hk (zFK_lt (by rw [hj]; decide)) (by unfold zFV; rw [hj]; rfl) kk
theorem g_getR {idx c j k r : Nat} (h : Cx E Γ own cc nL d) (hf : zFl own idx c j) (hd : decode cc pc = .ok (.getfield idx, 3)) (hk : zSH k = .inl c) (hj : zFK c j = 2) (hr : zRF k j = r) (kk : G E Γ nL (pc + 3) lv (.ref r :: st) M) : G E Γ nL pc lv (.ref k :: st) M :=
  g_getf h hf hd hk (zFK_lt (by rw [hj]; decide)) (by unfold zFV; rw [hj, ← hr]; rfl) kk
theorem g_getD {idx c j k r : Nat} (h : Cx E Γ own cc nL d) (hf : zFl own idx c j) (hd : decode cc pc = .ok (.getfield idx, 3)) (hk : zSH k = .inl c) (hj : zFK c j = 3) (hr : M.2.2 j = some r) (kk : G E Γ nL (pc + 3) lv (.ref r :: st) M) : G E Γ nL pc lv (.ref k :: st) M :=
  g_getf h hf hd hk (zFK_lt (by rw [hj]; decide)) (by unfold zFV; rw [hj]; simp only [hr, Option.map_some]; rfl) kk
theorem g_putI {idx c j k : Nat} {ty : FieldType} {x : Int32} (h : Cx E Γ own cc nL d) (hf : zFp own idx c j ty) (hd : decode cc pc = .ok (.putfield idx, 3)) (hk : zSH k = .inl c) (hj : zFK c j = 0) (hn : narrow ty (.int x) = .int x) (hfit : fits ty (.int x) = true) (kk : G E Γ nL (pc + 3) lv st (zSI M k j x)) : G E Γ nL pc lv (.int x :: .ref k :: st) M := by
  obtain ⟨p, e, R, s, m, args, below, meth, c1, Q, A, ce, sl⟩ := Γ
  obtain ⟨C, T, N, t0, hc, hjN, hin, hlk, hty, hnm, hfin, hds⟩ := hf
  intro ls H locs hl hP hD hS
  have he : (zWE E M)[k]? = some (E.2.2.2 k, .inr (c, (List.range (zNf c)).map (zFV E.2.2.2 M c k))) := by rw [zW_get _ _ _ (zObj_lt hk hc), zC_obj hk]
  have hj2 : j < ((List.range (zNf c)).map (zFV E.2.2.2 M c k)).length := by simpa using zFK_lt (c := c) (j := j) (by rw [hj]; decide)
  rcases hlk with hlk | ⟨host, hlk⟩
  · refine va_put h.1 h.2.1 h.2.2.2.2.1 hin t0 hty hnm h.2.2.2.1 h.2.2.2.2.2.1 hP hD hS k he hc j hjN (h.2.2.2.2.1 _ hlk) (fun _ h9 => h9) hfin hds hn hfit hj2 hd (fun H1 locs1 hP1 hD1 hS1 => ?_)
    have e9 : List.set (zWE E M) k (E.2.2.2 k, .inr (c, ((List.range (zNf c)).map (zFV E.2.2.2 M c k)).set j (zv E.2.2.2 (.int x)))) = zWE E (zSI M k j x) := zW_putI hk hj
    rw [e9] at hP1 hD1
    exact kk ls H1 locs1 hl hP1 hD1 hS1
  · refine va_putN h.1 h.2.1 h.2.2.2.2.1 hin t0 hty hnm h.2.2.2.1 h.2.2.2.2.2.1 hP hD hS k he hc j hjN (va_Nw.use rfl (h.2.2.2.2.2.2.2.2.2.1.1 _ hlk)) (fun _ h9 => h9) hfin hds hn hfit hj2 hd (fun H1 locs1 hP1 hD1 hS1 => ?_)
    have e9 : List.set (zWE E M) k (E.2.2.2 k, .inr (c, ((List.range (zNf c)).map (zFV E.2.2.2 M c k)).set j (zv E.2.2.2 (.int x)))) = zWE E (zSI M k j x) := zW_putI hk hj
    rw [e9] at hP1 hD1
    exact kk ls H1 locs1 hl hP1 hD1 hS1
theorem g_putD {idx j k a : Nat} {ty : FieldType} (h : Cx E Γ own cc nL d) (hf : zFp own idx 12 j ty) (hd : decode cc pc = .ok (.putfield idx, 3)) (hk : zSH k = .inl 12) (hj : zFK 12 j = 3) (hn : ∀ b, narrow ty (.ref b) = .ref b) (hfit : ∀ b, fits ty (.ref b) = true) (kk : G E Γ nL (pc + 3) lv st (zSD M j (some a))) : G E Γ nL pc lv (.ref a :: .ref k :: st) M := by
  obtain ⟨p, e, R, s, m, args, below, meth, c1, Q, A, ce, sl⟩ := Γ
  obtain ⟨C, T, N, t0, hc, hjN, hin, hlk, hty, hnm, hfin, hds⟩ := hf
  intro ls H locs hl hP hD hS
  have he : (zWE E M)[k]? = some (E.2.2.2 k, .inr (12, (List.range (zNf 12)).map (zFV E.2.2.2 M 12 k))) := by rw [zW_get _ _ _ (zObj_lt hk hc), zC_obj hk]
  have hj2 : j < ((List.range (zNf 12)).map (zFV E.2.2.2 M 12 k)).length := by simpa using zFK_lt (c := 12) (j := j) (by rw [hj]; decide)
  rcases hlk with hlk | ⟨host, hlk⟩
  · refine va_put h.1 h.2.1 h.2.2.2.2.1 hin t0 hty hnm h.2.2.2.1 h.2.2.2.2.2.1 hP hD hS k he hc j hjN (h.2.2.2.2.1 _ hlk) (fun _ h9 => h9) hfin hds (hn _) (hfit _) hj2 hd (fun H1 locs1 hP1 hD1 hS1 => ?_)
    have e9 : List.set (zWE E M) k (E.2.2.2 k, .inr (12, ((List.range (zNf 12)).map (zFV E.2.2.2 M 12 k)).set j (zv E.2.2.2 (.ref a)))) = zWE E (zSD M j (some a)) := zW_putD hk hj
    rw [e9] at hP1 hD1
    exact kk ls H1 locs1 hl hP1 hD1 hS1
  · refine va_putN h.1 h.2.1 h.2.2.2.2.1 hin t0 hty hnm h.2.2.2.1 h.2.2.2.2.2.1 hP hD hS k he hc j hjN (va_Nw.use rfl (h.2.2.2.2.2.2.2.2.2.1.1 _ hlk)) (fun _ h9 => h9) hfin hds (hn _) (hfit _) hj2 hd (fun H1 locs1 hP1 hD1 hS1 => ?_)
    have e9 : List.set (zWE E M) k (E.2.2.2 k, .inr (12, ((List.range (zNf 12)).map (zFV E.2.2.2 M 12 k)).set j (zv E.2.2.2 (.ref a)))) = zWE E (zSD M j (some a)) := zW_putD hk hj
    rw [e9] at hP1 hD1
    exact kk ls H1 locs1 hl hP1 hD1 hS1
theorem zArr_lt {k e n : Nat} (hk : zSH k = .inr (e, n)) : k < 145 := zSH_lt (by rw [hk]; intro z; cases z)
theorem zW_arr {cy : Nat → ClassId} {ad : Nat → Nat} {M : zM} {k e n : Nat} (hk : zSH k = .inr (e, n)) : (zW cy ad M)[k]? = some (ad k, .inl (cy e, n, zA ad M e k)) := by rw [zW_get _ _ _ (zArr_lt hk), zC_arr hk]
theorem g_iaload {a n : Nat} {i : Int32} (h : Cx E Γ own cc nL d) (hd : decode cc pc = .ok (.iaload, 1)) (ha : zSH a = .inr (0, n)) (hi : zin i n) (k : G E Γ nL (pc + 1) lv (.int (M.1 a i.toNatClampNeg) :: st) M) : G E Γ nL pc lv (.int i :: .ref a :: st) M := by
  obtain ⟨p, e, R, s, m, args, below, meth, c, Q, A, ce, sl⟩ := Γ
  intro ls H locs hl hP hD hS
  exact va_iald h.1 h.2.1 h.2.2.2.2.2.1 hP a 0 (zW_arr ha) rfl (zin_vp hi) hd (k ls H locs hl hP hD hS)
theorem g_zaload {a n : Nat} {i : Int32} (h : Cx E Γ own cc nL d) (hd : decode cc pc = .ok (.baload, 1)) (ha : zSH a = .inr (2, n)) (hi : zin i n) (k : G E Γ nL (pc + 1) lv (.int (M.1 a i.toNatClampNeg) :: st) M) : G E Γ nL pc lv (.int i :: .ref a :: st) M := by
  obtain ⟨p, e, R, s, m, args, below, meth, c, Q, A, ce, sl⟩ := Γ
  intro ls H locs hl hP hD hS
  exact va_zald h.1 h.2.1 h.2.2.2.2.2.1 hP a 2 (zW_arr ha) rfl (zin_vp hi) hd (k ls H locs hl hP hD hS)
theorem g_baload {a n : Nat} {i : Int32} (h : Cx E Γ own cc nL d) (hd : decode cc pc = .ok (.baload, 1)) (ha : zSH a = .inr (3, n)) (hi : zin i n) (k : G E Γ nL (pc + 1) lv (.int (M.1 a i.toNatClampNeg) :: st) M) : G E Γ nL pc lv (.int i :: .ref a :: st) M := by
  obtain ⟨p, e, R, s, m, args, below, meth, c, Q, A, ce, sl⟩ := Γ
  intro ls H locs hl hP hD hS
  exact va_bald h.1 h.2.1 h.2.2.2.2.2.1 hP a 3 (zW_arr ha) rfl (zin_vp hi) hd (k ls H locs hl hP hD hS)
theorem g_laload {a n : Nat} {i : Int32} (h : Cx E Γ own cc nL d) (hd : decode cc pc = .ok (.laload, 1)) (ha : zSH a = .inr (1, n)) (hi : zin i n) (k : G E Γ nL (pc + 1) lv (.long (M.2.1 a i.toNatClampNeg) :: st) M) : G E Γ nL pc lv (.int i :: .ref a :: st) M := by
  obtain ⟨p, e, R, s, m, args, below, meth, c, Q, A, ce, sl⟩ := Γ
  intro ls H locs hl hP hD hS
  exact va_lald h.1 h.2.1 h.2.2.2.2.2.1 hP a 1 (zW_arr ha) rfl (zin_vp hi) hd (k ls H locs hl hP hD hS)
theorem g_aaload {a n r : Nat} {i : Int32} (h : Cx E Γ own cc nL d) (hd : decode cc pc = .ok (.aaload, 1)) (ha : zSH a = .inr (4, n)) (hi : zin i n) (hr : zRF a i.toNatClampNeg = r) (k : G E Γ nL (pc + 1) lv (.ref r :: st) M) : G E Γ nL pc lv (.int i :: .ref a :: st) M := by
  obtain ⟨p, e, R, s, m, args, below, meth, c, Q, A, ce, sl⟩ := Γ
  intro ls H locs hl hP hD hS
  refine va_aldq h.1 h.2.1 h.2.2.2.2.2.1 hP a 4 (zW_arr ha) rfl (zin_vp hi) hd ?_
  subst hr
  exact (k ls H locs hl hP hD hS)
theorem g_alen {a ek n : Nat} {v : Int32} (h : Cx E Γ own cc nL d) (hd : decode cc pc = .ok (.arraylength, 1)) (ha : zSH a = .inr (ek, n)) (he : ek < 5) (hv : Int32.ofNat n = v) (k : G E Γ nL (pc + 1) lv (.int v :: st) M) : G E Γ nL pc lv (.ref a :: st) M := by
  obtain ⟨p, e, R, s, m, args, below, meth, c, Q, A, ce, sl⟩ := Γ
  intro ls H locs hl hP hD hS
  have ht : ∃ ty, (zTy E.2.2.1)[ek]? = some (E.2.2.1 ek, ty) := by
    rcases (show ek = 0 ∨ ek = 1 ∨ ek = 2 ∨ ek = 3 ∨ ek = 4 by omega) with rfl | rfl | rfl | rfl | rfl <;> exact ⟨_, rfl⟩
  obtain ⟨ty, ht⟩ := ht
  exact va_alen h.1 h.2.1 h.2.2.2.2.2.1 hP a ek (zW_arr ha) ht hv hd (k ls H locs hl hP hD hS)
theorem g_iastore {a n : Nat} {i x : Int32} (h : Cx E Γ own cc nL d) (hd : decode cc pc = .ok (.iastore, 1)) (ha : zSH a = .inr (0, n)) (hi : zin i n) (k : G E Γ nL (pc + 1) lv st (zSI M a i.toNatClampNeg (x))) : G E Γ nL pc lv (.int x :: .int i :: .ref a :: st) M := by
  obtain ⟨p, e, R, s, m, args, below, meth, c, Q, A, ce, sl⟩ := Γ
  intro ls H locs hl hP hD hS
  refine va_iast h.1 h.2.1 h.2.2.2.2.2.1 hP hD hS a 0 (zW_arr ha) rfl (zin_vp hi) hd (fun H1 locs1 hP1 hD1 hS1 => ?_)
  rw [zW_ast (e := 0) ha (by decide) (by decide)] at hP1 hD1
  exact k ls H1 locs1 hl hP1 hD1 hS1
theorem g_zastore {a n : Nat} {i x : Int32} (h : Cx E Γ own cc nL d) (hd : decode cc pc = .ok (.bastore, 1)) (ha : zSH a = .inr (2, n)) (hi : zin i n) (k : G E Γ nL (pc + 1) lv st (zSI M a i.toNatClampNeg (vp_nar .boolean x))) : G E Γ nL pc lv (.int x :: .int i :: .ref a :: st) M := by
  obtain ⟨p, e, R, s, m, args, below, meth, c, Q, A, ce, sl⟩ := Γ
  intro ls H locs hl hP hD hS
  refine va_zast h.1 h.2.1 h.2.2.2.2.2.1 hP hD hS a 2 (zW_arr ha) rfl (zin_vp hi) hd (fun H1 locs1 hP1 hD1 hS1 => ?_)
  rw [zW_ast (e := 2) ha (by decide) (by decide)] at hP1 hD1
  exact k ls H1 locs1 hl hP1 hD1 hS1
theorem g_bastore {a n : Nat} {i x : Int32} (h : Cx E Γ own cc nL d) (hd : decode cc pc = .ok (.bastore, 1)) (ha : zSH a = .inr (3, n)) (hi : zin i n) (k : G E Γ nL (pc + 1) lv st (zSI M a i.toNatClampNeg (vp_nar .byte x))) : G E Γ nL pc lv (.int x :: .int i :: .ref a :: st) M := by
  obtain ⟨p, e, R, s, m, args, below, meth, c, Q, A, ce, sl⟩ := Γ
  intro ls H locs hl hP hD hS
  refine va_bast h.1 h.2.1 h.2.2.2.2.2.1 hP hD hS a 3 (zW_arr ha) rfl (zin_vp hi) hd (fun H1 locs1 hP1 hD1 hS1 => ?_)
  rw [zW_ast (e := 3) ha (by decide) (by decide)] at hP1 hD1
  exact k ls H1 locs1 hl hP1 hD1 hS1
theorem g_lastore {a n : Nat} {i : Int32} {x : Int64} (h : Cx E Γ own cc nL d) (hd : decode cc pc = .ok (.lastore, 1)) (ha : zSH a = .inr (1, n)) (hi : zin i n) (k : G E Γ nL (pc + 1) lv st (zSJ M a i.toNatClampNeg x)) : G E Γ nL pc lv (.long x :: .int i :: .ref a :: st) M := by
  obtain ⟨p, e, R, s, m, args, below, meth, c, Q, A, ce, sl⟩ := Γ
  intro ls H locs hl hP hD hS
  refine va_last h.1 h.2.1 h.2.2.2.2.2.1 hP hD hS a 1 (zW_arr ha) rfl (zin_vp hi) hd (fun H1 locs1 hP1 hD1 hS1 => ?_)
  rw [zW_last ha] at hP1 hD1
  exact k ls H1 locs1 hl hP1 hD1 hS1
theorem g_ireturn {v : Int32} {post : Int32 → zM → Prop} (h : Cx E Γ own cc nL d) (hr : zRi E Γ (some .int) post) (hd : decode cc pc = .ok (.ireturn, 1)) (k : post v M) : G E Γ nL pc lv [.int v] M := by
  obtain ⟨p, e, R, s, m, args, below, meth, c, Q, A, ce, sl⟩ := Γ
  intro ls H locs hl hP hD hS
  obtain ⟨hr1, rfl, rfl, rfl⟩ := hr
  exact W.iret (hlocks := h.2.2.2.2.2.2.2.2.1) h.1 h.2.1 hr1 (fun t ht hW => ⟨⟨v, M, rfl, k, by rw [ht]; exact hP, va_K.moved hW.alike h.2.2.2.2.2.1, hD⟩, hS.F ht⟩) hS.2.2 hd
theorem g_zreturn {v : Int32} {post : Int32 → zM → Prop} (h : Cx E Γ own cc nL d) (hr : zRi E Γ (some .boolean) post) (hd : decode cc pc = .ok (.ireturn, 1)) (hv : v = 0 ∨ v = 1) (k : post v M) : G E Γ nL pc lv [.int v] M := by
  obtain ⟨p, e, R, s, m, args, below, meth, c, Q, A, ce, sl⟩ := Γ
  intro ls H locs hl hP hD hS
  obtain ⟨hr1, rfl, rfl, rfl⟩ := hr
  exact W.zret (hlocks := h.2.2.2.2.2.2.2.2.1) h.1 h.2.1 hr1 (by rcases hv with rfl | rfl <;> decide +kernel) (fun t ht hW => ⟨⟨v, M, rfl, k, by rw [ht]; exact hP, va_K.moved hW.alike h.2.2.2.2.2.1, hD⟩, hS.F ht⟩) hS.2.2 hd
theorem g_lreturn {v : Int64} {post : Int64 → zM → Prop} (h : Cx E Γ own cc nL d) (hr : zRl E Γ (some .long) post) (hd : decode cc pc = .ok (.lreturn, 1)) (k : post v M) : G E Γ nL pc lv [.long v] M := by
  obtain ⟨p, e, R, s, m, args, below, meth, c, Q, A, ce, sl⟩ := Γ
  intro ls H locs hl hP hD hS
  obtain ⟨hr1, rfl, rfl, rfl⟩ := hr
  exact W.lret (hlocks := h.2.2.2.2.2.2.2.2.1) h.1 h.2.1 hr1 (fun t ht hW => ⟨⟨v, M, rfl, k, by rw [ht]; exact hP, va_K.moved hW.alike h.2.2.2.2.2.1, hD⟩, hS.F ht⟩) hS.2.2 hd
theorem g_vreturn {post : zM → Prop} (h : Cx E Γ own cc nL d) (hr : zRv E Γ none post) (hd : decode cc pc = .ok (.return_, 1)) (k : post M) : G E Γ nL pc lv [] M := by
  obtain ⟨p, e, R, s, m, args, below, meth, c, Q, A, ce, sl⟩ := Γ
  intro ls H locs hl hP hD hS
  obtain ⟨hr1, rfl, rfl, rfl⟩ := hr
  exact W.vret (hlocks := h.2.2.2.2.2.2.2.2.1) h.1 h.2.1 hr1 (fun t ht hW => ⟨⟨M, rfl, k, by rw [ht]; exact hP, va_K.moved hW.alike h.2.2.2.2.2.1, hD⟩, hS.F ht⟩) hS.2.2 hd
end ZI
