/-! CALLS -/
theorem zEx.next {ad : Nat → Nat} {A A' : Nat → Prop} {s U : State} {H : Heap} {locs : List Loc} (h : zEx ad A s) (hS : va_S A s.heap H locs) (hAA : ∀ q, A' q → A q) (hU : U.heap = H) (hW : s.WarmedH U.vm) : zEx ad A' U := by
  have hq : ∀ a : Nat, a < s.heap.size → ¬ A a → U.heap[a]? = s.heap[a]? := fun a h1 h2 => by rw [hU]; exact hS.2.1 a h1 h2
  obtain ⟨⟨h1, h2, h21, h22⟩, ⟨h3, h4, h5, h6, h7⟩, h8⟩ := h
  refine ⟨⟨((h1.kept hq).narrow hAA).moved hW.alike, (h2.kept (hq _ h21 h22)).moved hW.alike, by rw [hU]; exact Nat.lt_of_lt_of_le h21 hS.1, fun z => h22 (hAA _ z)⟩, ⟨h3.warm hW, ((h4.kept hq).narrow hAA).moved hW.alike, ((h5.kept hq).narrow hAA).moved hW.alike, ((h6.kept hq).narrow hAA).moved hW.alike, ((h7.kept hq).narrow hAA).moved hW.alike⟩, ((h8.kept hq).narrow hAA).moved hW.alike⟩
theorem zEx.same {ad : Nat → Nat} {A : Nat → Prop} {u U : State} (h : zEx ad A u) (hv : u.vm = U.vm) (hh : u.heap = U.heap) : zEx ad A U := by
  have ha : u.vm.Alike U.vm := by rw [hv]; exact Vm.Alike.refl _
  obtain ⟨⟨h1, h2, h21, h22⟩, ⟨h3, h4, h5, h6, h7⟩, h8⟩ := h
  rw [hh] at h1 h2 h21 h4 h5 h6 h7 h8
  exact ⟨⟨h1.moved ha, h2.moved ha, h21, h22⟩, ⟨h3.same hv.symm, h4.moved ha, h5.moved ha, h6.moved ha, h7.moved ha⟩, h8.moved ha⟩
theorem zPre.blind {E : zE} {sz : Nat} {M : zM} {av : List Value} : FrameBlind (va_Pc av (zPre E sz M)) := by
  intro a U g mk q
  obtain ⟨q0, q1, qP, qK, qD, qN, qE⟩ := q
  exact ⟨q0, q1, qP, va_K.moved (u := U) (U := U.calling g mk a) (Vm.Alike.refl U.vm) qK, qD, qN.same (U := U.calling g mk a) rfl, qE.same (U := U.calling g mk a) rfl rfl⟩
theorem zFree {E : zE} {M : zM} {A : Nat → Prop} {s : State} {H : Heap} {locs : List Loc} (hD : va_D A (zWE E M)) (hS : va_S A s.heap H locs) (hA : ∀ q, s.heap.size ≤ q → A q) : ∀ q, va_A (zWE E M) H.size q → A q := by
  rintro q (⟨k, e, h⟩ | h)
  · exact hD.2 k (q, e) h
  · exact hA q (Nat.le_trans hS.1 h)
theorem zPre.mk {E : zE} {M : zM} {A : Nat → Prop} {s U : State} {H : Heap} {locs : List Loc} (hP : va_P E.2.1 vwCl (zWE E M) H) (hD : va_D A (zWE E M)) (hS : va_S A s.heap H locs) (hA : ∀ q, s.heap.size ≤ q → A q) (hK : va_K E.2.1 vwCl (zTy E.2.2.1) s) (hN : zNw s) (hX : zEx E.2.2.2 A s) (hU : U.heap = H) (hW : s.WarmedH U.vm) : zPre E H.size M U :=
  ⟨by rw [hU], by rw [hU]; exact hP, va_K.moved hW.alike hK, hD.weaken (fun _ _ _ _ => trivial), hN.warm hW, hX.next hS (zFree hD hS hA) hU hW⟩
theorem zGood {y : MethodName} {cc : ByteArray} {nL : Nat} {rt : Option FieldType} (h : Cond.code y cc nL rt ∈ zTb) : GoodIn zTb (.code y cc nL rt :: zTb) := by
  intro w hw
  have hw : w ∈ zTb := (List.mem_cons.mp hw).elim (fun z => by rw [z]; exact h) id
  exact ⟨hw, good_of_word (List.mem_filter.mp hw).2⟩
/-- the words of a call -/
def zWd (own : String) (idx : Nat) (y : MethodName) (cc : ByteArray) (nL : Nat) (rt : Option FieldType) (n : Nat) : Prop :=
  (Cond.code y cc nL rt ∈ zTb ∧ Cond.initialized y.cls ∈ zTb ∧ y.cls ≠ "java/lang/invoke/MethodHandle" ∧ y.cls ≠ "java/lang/invoke/VarHandle" ∧ (parseMethodDescriptor y.desc).map (fun d => d.parameters.length) = some n) ∧ nL ≤ 40
def zWV (own : String) (idx c : Nat) (y : MethodName) (cc : ByteArray) (nL : Nat) (rt : Option FieldType) (n : Nat) : Prop :=
  zWd own idx y cc nL rt n ∧ Cond.methodLink own idx y ∈ zTb ∧ Cond.instanceMethod y ∈ zTb ∧ ∃ C T N, vwCl[c]? = some (C, T, N) ∧ Cond.selects C y y ∈ zTb
def zWS (own : String) (idx : Nat) (y : MethodName) (cc : ByteArray) (nL : Nat) (rt : Option FieldType) (n : Nat) : Prop :=
  zWd own idx y cc nL rt n ∧ Cond.methodLink own idx y ∈ zTb ∧ Cond.static y ∈ zTb
def zWN (own : String) (idx : Nat) (y : MethodName) (cc : ByteArray) (nL : Nat) (rt : Option FieldType) (n : Nat) : Prop :=
  zWd own idx y cc nL rt n ∧ Cond.static y ∈ zTb ∧ ∃ host, (own, idx, y, host) ∈ zNM
theorem zCat (ad : Nat → Nat) (st : List Value) : ((st.map (zv ad)).map fun v => v.category) = st.map fun v => v.category := by
  rw [List.map_map]
  exact List.map_congr_left (fun v _ => zv_cat ad v)
section ZC
variable {E : zE} {Γ : zT} {own : String} {cc : ByteArray} {nL d pc : Nat} {lv : List (Nat × Value)} {st : List Value} {M : zM}
theorem g_callVi {idx c b n nL' d' : Nat} {y : MethodName} {cc' : ByteArray} {rt' : Option FieldType} (as : List Value) {post : Int32 → zM → Prop} (h : Cx E Γ own cc nL d) (hw : zWV own idx c y cc' nL' rt' n) (hd : decode cc pc = .ok (.invokevirtual idx, 3)) (hbc : zSH b = .inl c) (hn : as.length = n) (hdd : d' + 1 ≤ d) (hst : (st.map fun v => v.category).sum ≤ 8) (hM : CMi E d' y cc' nL' rt' (.ref b :: as) M post) (kk : ∀ (r : Int32) (N : zM), post r N → G E Γ nL (pc + 3) lv (.int r :: st) N) : G E Γ nL pc lv (as.reverse ++ .ref b :: st) M := by
  obtain ⟨p, e, R, s, m, args, below, meth, c1, Q, A, ce, sl⟩ := Γ
  obtain ⟨hx, hb, hml, hown, hts, hK, hA, ⟨hRf, hRl, hRc, hRs⟩, hlk, hN, hX⟩ := h
  intro ls H locs hl hP hD hS
  obtain ⟨⟨⟨w1, w2, w3, w4, w5⟩, w6⟩, w7, w8, C, T, N, w9, w10⟩ := hw
  have he : (zWE E M)[b]? = some (E.2.2.2 b, .inr (c, (List.range (zNf c)).map (zFV E.2.2.2 M c b))) := by rw [zW_get _ _ _ (zObj_lt hbc w9), zC_obj hbc]
  have hR : (zRm d').frames + 1 ≤ R.frames ∧ 8 + (nL' + 11) + (zRm d').locals ≤ R.locals := ⟨Nat.le_trans hdd hRf, by show 8 + (nL' + 11) + 64 * d' ≤ R.locals; omega⟩
  refine va_calli (va_runV (As := as.map (zv E.2.2.2)) (rest := st.map (zv E.2.2.2)) ⟨hx, hb, hml, hown, hts⟩ (hM H.size) ⟨callB_of n hts (zGood w1) rfl rfl rfl (hts _ w2) (hts _ w7) ⟨w3, w4, w5⟩ hR, hts _ w8, hts _ w10⟩ ⟨zPre.blind, va_recv hK hP w9 he, fun U hU hW => ⟨rfl, zPre.mk hP hD hS hA hK hN hX hU hW⟩⟩ rfl (by rw [List.length_map]; exact hn) hl.1 (by show List.map _ (as.reverse ++ .ref b :: st) = _; rw [List.map_append, List.map_reverse]; rfl) (lv_room (by rw [zCat]; exact hst)) hd ⟨hRc, hRs⟩) hS (fun q _ hq => zFree hD hS hA q hq) (zFree hD hS hA) (fun r u t H1 locs1 ht hvm hw hB hz1 hk1 hS1 => ?_)
  obtain ⟨hP1, hK1, hD1⟩ := hB
  rw [ht] at hP1
  exact kk r u hw ls H1 locs1 hl hP1 (hD1.weaken (fun _ _ _ ha => zFree hD hS hA _ ha)) hS1
theorem g_callSi {idx n nL' d' : Nat} {y : MethodName} {cc' : ByteArray} {rt' : Option FieldType} (as : List Value) {post : Int32 → zM → Prop} (h : Cx E Γ own cc nL d) (hw : zWS own idx y cc' nL' rt' n) (hd : decode cc pc = .ok (.invokestatic idx, 3)) (hn : as.length = n) (hdd : d' + 1 ≤ d) (hst : (st.map fun v => v.category).sum ≤ 8) (hM : CMi E d' y cc' nL' rt' as M post) (kk : ∀ (r : Int32) (N : zM), post r N → G E Γ nL (pc + 3) lv (.int r :: st) N) : G E Γ nL pc lv (as.reverse ++ st) M := by
  obtain ⟨p, e, R, s, m, args, below, meth, c1, Q, A, ce, sl⟩ := Γ
  obtain ⟨hx, hb, hml, hown, hts, hK, hA, ⟨hRf, hRl, hRc, hRs⟩, hlk, hN, hX⟩ := h
  intro ls H locs hl hP hD hS
  obtain ⟨⟨⟨w1, w2, w3, w4, w5⟩, w6⟩, w7, w8⟩ := hw
  have hR : (zRm d').frames + 1 ≤ R.frames ∧ 8 + (nL' + 11) + (zRm d').locals ≤ R.locals := ⟨Nat.le_trans hdd hRf, by show 8 + (nL' + 11) + 64 * d' ≤ R.locals; omega⟩
  refine va_calli (va_runS (As := as.map (zv E.2.2.2)) (rest := st.map (zv E.2.2.2)) ⟨hx, hb, hml, hown, hts⟩ (hM H.size) ⟨callB_of n hts (zGood w1) rfl rfl rfl (hts _ w2) (hts _ w7) ⟨w3, w4, w5⟩ hR, hts _ w8⟩ ⟨zPre.blind, fun U hU hW => ⟨rfl, zPre.mk hP hD hS hA hK hN hX hU hW⟩⟩ rfl (by rw [List.length_map]; exact hn) hl.1 (by show List.map _ (as.reverse ++ st) = _; rw [List.map_append, List.map_reverse]) (lv_room (by rw [zCat]; exact hst)) hd ⟨hRc, hRs⟩) hS (fun q _ hq => zFree hD hS hA q hq) (zFree hD hS hA) (fun r u t H1 locs1 ht hvm hw hB hz1 hk1 hS1 => ?_)
  obtain ⟨hP1, hK1, hD1⟩ := hB
  rw [ht] at hP1
  exact kk r u hw ls H1 locs1 hl hP1 (hD1.weaken (fun _ _ _ ha => zFree hD hS hA _ ha)) hS1
theorem g_callNi {idx n nL' d' : Nat} {y : MethodName} {cc' : ByteArray} {rt' : Option FieldType} (as : List Value) {post : Int32 → zM → Prop} (h : Cx E Γ own cc nL d) (hw : zWN own idx y cc' nL' rt' n) (hd : decode cc pc = .ok (.invokestatic idx, 3)) (hn : as.length = n) (hdd : d' + 1 ≤ d) (hst : (st.map fun v => v.category).sum ≤ 8) (hM : CMi E d' y cc' nL' rt' as M post) (kk : ∀ (r : Int32) (N : zM), post r N → G E Γ nL (pc + 3) lv (.int r :: st) N) : G E Γ nL pc lv (as.reverse ++ st) M := by
  obtain ⟨p, e, R, s, m, args, below, meth, c1, Q, A, ce, sl⟩ := Γ
  obtain ⟨hx, hb, hml, hown, hts, hK, hA, ⟨hRf, hRl, hRc, hRs⟩, hlk, hN, hX⟩ := h
  intro ls H locs hl hP hD hS
  obtain ⟨⟨⟨w1, w2, w3, w4, w5⟩, w6⟩, w8, host, w7⟩ := hw
  have hR : (zRm d').frames + 1 ≤ R.frames ∧ 8 + (nL' + 11) + (zRm d').locals ≤ R.locals := ⟨Nat.le_trans hdd hRf, by show 8 + (nL' + 11) + 64 * d' ≤ R.locals; omega⟩
  refine va_calli (va_runSN (As := as.map (zv E.2.2.2)) (rest := st.map (zv E.2.2.2)) ⟨hx, hb, hml, hown, hts⟩ (hM H.size) ⟨va_cnB n hts (zGood w1) rfl rfl rfl (hN.2 _ w7) (hts _ w2) ⟨w3, w4, w5⟩ hR, hts _ w8, trivial⟩ ⟨zPre.blind, fun U hU hW => ⟨rfl, zPre.mk hP hD hS hA hK hN hX hU hW⟩⟩ rfl (by rw [List.length_map]; exact hn) hl.1 (by show List.map _ (as.reverse ++ st) = _; rw [List.map_append, List.map_reverse]) (lv_room (by rw [zCat]; exact hst)) hd ⟨hRc, hRs⟩) hS (fun q _ hq => zFree hD hS hA q hq) (zFree hD hS hA) (fun r u t H1 locs1 ht hvm hw hB hz1 hk1 hS1 => ?_)
  obtain ⟨hP1, hK1, hD1⟩ := hB
  rw [ht] at hP1
  exact kk r u hw ls H1 locs1 hl hP1 (hD1.weaken (fun _ _ _ ha => zFree hD hS hA _ ha)) hS1
theorem g_callVl {idx c b n nL' d' : Nat} {y : MethodName} {cc' : ByteArray} {rt' : Option FieldType} (as : List Value) {post : Int64 → zM → Prop} (h : Cx E Γ own cc nL d) (hw : zWV own idx c y cc' nL' rt' n) (hd : decode cc pc = .ok (.invokevirtual idx, 3)) (hbc : zSH b = .inl c) (hn : as.length = n) (hdd : d' + 1 ≤ d) (hst : (st.map fun v => v.category).sum ≤ 8) (hM : CMl E d' y cc' nL' rt' (.ref b :: as) M post) (kk : ∀ (r : Int64) (N : zM), post r N → G E Γ nL (pc + 3) lv (.long r :: st) N) : G E Γ nL pc lv (as.reverse ++ .ref b :: st) M := by
  obtain ⟨p, e, R, s, m, args, below, meth, c1, Q, A, ce, sl⟩ := Γ
  obtain ⟨hx, hb, hml, hown, hts, hK, hA, ⟨hRf, hRl, hRc, hRs⟩, hlk, hN, hX⟩ := h
  intro ls H locs hl hP hD hS
  obtain ⟨⟨⟨w1, w2, w3, w4, w5⟩, w6⟩, w7, w8, C, T, N, w9, w10⟩ := hw
  have he : (zWE E M)[b]? = some (E.2.2.2 b, .inr (c, (List.range (zNf c)).map (zFV E.2.2.2 M c b))) := by rw [zW_get _ _ _ (zObj_lt hbc w9), zC_obj hbc]
  have hR : (zRm d').frames + 1 ≤ R.frames ∧ 8 + (nL' + 11) + (zRm d').locals ≤ R.locals := ⟨Nat.le_trans hdd hRf, by show 8 + (nL' + 11) + 64 * d' ≤ R.locals; omega⟩
  refine va_calll (va_runV (As := as.map (zv E.2.2.2)) (rest := st.map (zv E.2.2.2)) ⟨hx, hb, hml, hown, hts⟩ (hM H.size) ⟨callB_of n hts (zGood w1) rfl rfl rfl (hts _ w2) (hts _ w7) ⟨w3, w4, w5⟩ hR, hts _ w8, hts _ w10⟩ ⟨zPre.blind, va_recv hK hP w9 he, fun U hU hW => ⟨rfl, zPre.mk hP hD hS hA hK hN hX hU hW⟩⟩ rfl (by rw [List.length_map]; exact hn) hl.1 (by show List.map _ (as.reverse ++ .ref b :: st) = _; rw [List.map_append, List.map_reverse]; rfl) (lv_room (by rw [zCat]; exact hst)) hd ⟨hRc, hRs⟩) hS (fun q _ hq => zFree hD hS hA q hq) (zFree hD hS hA) (fun r u t H1 locs1 ht hvm hw hB hz1 hk1 hS1 => ?_)
  obtain ⟨hP1, hK1, hD1⟩ := hB
  rw [ht] at hP1
  exact kk r u hw ls H1 locs1 hl hP1 (hD1.weaken (fun _ _ _ ha => zFree hD hS hA _ ha)) hS1
theorem g_callSl {idx n nL' d' : Nat} {y : MethodName} {cc' : ByteArray} {rt' : Option FieldType} (as : List Value) {post : Int64 → zM → Prop} (h : Cx E Γ own cc nL d) (hw : zWS own idx y cc' nL' rt' n) (hd : decode cc pc = .ok (.invokestatic idx, 3)) (hn : as.length = n) (hdd : d' + 1 ≤ d) (hst : (st.map fun v => v.category).sum ≤ 8) (hM : CMl E d' y cc' nL' rt' as M post) (kk : ∀ (r : Int64) (N : zM), post r N → G E Γ nL (pc + 3) lv (.long r :: st) N) : G E Γ nL pc lv (as.reverse ++ st) M := by
  obtain ⟨p, e, R, s, m, args, below, meth, c1, Q, A, ce, sl⟩ := Γ
  obtain ⟨hx, hb, hml, hown, hts, hK, hA, ⟨hRf, hRl, hRc, hRs⟩, hlk, hN, hX⟩ := h
  intro ls H locs hl hP hD hS
  obtain ⟨⟨⟨w1, w2, w3, w4, w5⟩, w6⟩, w7, w8⟩ := hw
  have hR : (zRm d').frames + 1 ≤ R.frames ∧ 8 + (nL' + 11) + (zRm d').locals ≤ R.locals := ⟨Nat.le_trans hdd hRf, by show 8 + (nL' + 11) + 64 * d' ≤ R.locals; omega⟩
  refine va_calll (va_runS (As := as.map (zv E.2.2.2)) (rest := st.map (zv E.2.2.2)) ⟨hx, hb, hml, hown, hts⟩ (hM H.size) ⟨callB_of n hts (zGood w1) rfl rfl rfl (hts _ w2) (hts _ w7) ⟨w3, w4, w5⟩ hR, hts _ w8⟩ ⟨zPre.blind, fun U hU hW => ⟨rfl, zPre.mk hP hD hS hA hK hN hX hU hW⟩⟩ rfl (by rw [List.length_map]; exact hn) hl.1 (by show List.map _ (as.reverse ++ st) = _; rw [List.map_append, List.map_reverse]) (lv_room (by rw [zCat]; exact hst)) hd ⟨hRc, hRs⟩) hS (fun q _ hq => zFree hD hS hA q hq) (zFree hD hS hA) (fun r u t H1 locs1 ht hvm hw hB hz1 hk1 hS1 => ?_)
  obtain ⟨hP1, hK1, hD1⟩ := hB
  rw [ht] at hP1
  exact kk r u hw ls H1 locs1 hl hP1 (hD1.weaken (fun _ _ _ ha => zFree hD hS hA _ ha)) hS1
theorem g_callVv {idx c b n nL' d' : Nat} {y : MethodName} {cc' : ByteArray} {rt' : Option FieldType} (as : List Value) {post : zM → Prop} (h : Cx E Γ own cc nL d) (hw : zWV own idx c y cc' nL' rt' n) (hd : decode cc pc = .ok (.invokevirtual idx, 3)) (hbc : zSH b = .inl c) (hn : as.length = n) (hdd : d' + 1 ≤ d) (hst : (st.map fun v => v.category).sum ≤ 8) (hM : CMv E d' y cc' nL' rt' (.ref b :: as) M post) (kk : ∀ (N : zM), post N → G E Γ nL (pc + 3) lv st N) : G E Γ nL pc lv (as.reverse ++ .ref b :: st) M := by
  obtain ⟨p, e, R, s, m, args, below, meth, c1, Q, A, ce, sl⟩ := Γ
  obtain ⟨hx, hb, hml, hown, hts, hK, hA, ⟨hRf, hRl, hRc, hRs⟩, hlk, hN, hX⟩ := h
  intro ls H locs hl hP hD hS
  obtain ⟨⟨⟨w1, w2, w3, w4, w5⟩, w6⟩, w7, w8, C, T, N, w9, w10⟩ := hw
  have he : (zWE E M)[b]? = some (E.2.2.2 b, .inr (c, (List.range (zNf c)).map (zFV E.2.2.2 M c b))) := by rw [zW_get _ _ _ (zObj_lt hbc w9), zC_obj hbc]
  have hR : (zRm d').frames + 1 ≤ R.frames ∧ 8 + (nL' + 11) + (zRm d').locals ≤ R.locals := ⟨Nat.le_trans hdd hRf, by show 8 + (nL' + 11) + 64 * d' ≤ R.locals; omega⟩
  refine va_callv (va_runV (As := as.map (zv E.2.2.2)) (rest := st.map (zv E.2.2.2)) ⟨hx, hb, hml, hown, hts⟩ (hM H.size) ⟨callB_of n hts (zGood w1) rfl rfl rfl (hts _ w2) (hts _ w7) ⟨w3, w4, w5⟩ hR, hts _ w8, hts _ w10⟩ ⟨zPre.blind, va_recv hK hP w9 he, fun U hU hW => ⟨rfl, zPre.mk hP hD hS hA hK hN hX hU hW⟩⟩ rfl (by rw [List.length_map]; exact hn) hl.1 (by show List.map _ (as.reverse ++ .ref b :: st) = _; rw [List.map_append, List.map_reverse]; rfl) (lv_room (by rw [zCat]; exact hst)) hd ⟨hRc, hRs⟩) hS (fun q _ hq => zFree hD hS hA q hq) (zFree hD hS hA) (fun u t H1 locs1 ht hvm hw hB hz1 hk1 hS1 => ?_)
  obtain ⟨hP1, hK1, hD1⟩ := hB
  rw [ht] at hP1
  exact kk u hw ls H1 locs1 hl hP1 (hD1.weaken (fun _ _ _ ha => zFree hD hS hA _ ha)) hS1
theorem g_callSv {idx n nL' d' : Nat} {y : MethodName} {cc' : ByteArray} {rt' : Option FieldType} (as : List Value) {post : zM → Prop} (h : Cx E Γ own cc nL d) (hw : zWS own idx y cc' nL' rt' n) (hd : decode cc pc = .ok (.invokestatic idx, 3)) (hn : as.length = n) (hdd : d' + 1 ≤ d) (hst : (st.map fun v => v.category).sum ≤ 8) (hM : CMv E d' y cc' nL' rt' as M post) (kk : ∀ (N : zM), post N → G E Γ nL (pc + 3) lv st N) : G E Γ nL pc lv (as.reverse ++ st) M := by
  obtain ⟨p, e, R, s, m, args, below, meth, c1, Q, A, ce, sl⟩ := Γ
  obtain ⟨hx, hb, hml, hown, hts, hK, hA, ⟨hRf, hRl, hRc, hRs⟩, hlk, hN, hX⟩ := h
  intro ls H locs hl hP hD hS
  obtain ⟨⟨⟨w1, w2, w3, w4, w5⟩, w6⟩, w7, w8⟩ := hw
  have hR : (zRm d').frames + 1 ≤ R.frames ∧ 8 + (nL' + 11) + (zRm d').locals ≤ R.locals := ⟨Nat.le_trans hdd hRf, by show 8 + (nL' + 11) + 64 * d' ≤ R.locals; omega⟩
  refine va_callv (va_runS (As := as.map (zv E.2.2.2)) (rest := st.map (zv E.2.2.2)) ⟨hx, hb, hml, hown, hts⟩ (hM H.size) ⟨callB_of n hts (zGood w1) rfl rfl rfl (hts _ w2) (hts _ w7) ⟨w3, w4, w5⟩ hR, hts _ w8⟩ ⟨zPre.blind, fun U hU hW => ⟨rfl, zPre.mk hP hD hS hA hK hN hX hU hW⟩⟩ rfl (by rw [List.length_map]; exact hn) hl.1 (by show List.map _ (as.reverse ++ st) = _; rw [List.map_append, List.map_reverse]) (lv_room (by rw [zCat]; exact hst)) hd ⟨hRc, hRs⟩) hS (fun q _ hq => zFree hD hS hA q hq) (zFree hD hS hA) (fun u t H1 locs1 ht hvm hw hB hz1 hk1 hS1 => ?_)
  obtain ⟨hP1, hK1, hD1⟩ := hB
  rw [ht] at hP1
  exact kk u hw ls H1 locs1 hl hP1 (hD1.weaken (fun _ _ _ ha => zFree hD hS hA _ ha)) hS1
def zWM_max (own : String) (idx : Nat) : Prop := Cond.methodLink own idx Lib.Math.max.name ∈ zTb ∧ Cond.static Lib.Math.max.name ∈ zTb ∧ Cond.initialized "java/lang/Math" ∈ zTb ∧ Cond.code Lib.Math.max.name Lib.Math.max.code 2 (some .int) ∈ zTb
def zmax (x y : Int32) : Int32 := if x < y then y else x
theorem g_max {idx : Nat} {x y : Int32} (h : Cx E Γ own cc nL d) (hw : zWM_max own idx) (hd : decode cc pc = .ok (.invokestatic idx, 3)) (hdd : 1 ≤ d) (hst : (st.map fun v => v.category).sum ≤ 8) (k : G E Γ nL (pc + 3) lv (.int (zmax x y) :: st) M) : G E Γ nL pc lv (.int y :: .int x :: st) M := by
  obtain ⟨p, e, R, s, m, args, below, meth, c1, Q, A, ce, sl⟩ := Γ
  obtain ⟨hx, hb, hml, hown, hts, hK, hA, ⟨hRf, hRl, hRc, hRs⟩, hlk, hN, hX⟩ := h
  intro ls H locs hl hP hD hS
  exact va_mmax hx hb (by rw [hml]; exact hl.1.symm) hown (hts _ hw.1) (hts _ hw.2.1) (hts _ hw.2.2.1) (hts _ hw.2.2.2) (Nat.le_trans hdd hRf) (by rw [zCat]; omega) hRc hRs hd (k ls H locs hl hP hD hS)
def zWM_min (own : String) (idx : Nat) : Prop := Cond.methodLink own idx Lib.Math.min.name ∈ zTb ∧ Cond.static Lib.Math.min.name ∈ zTb ∧ Cond.initialized "java/lang/Math" ∈ zTb ∧ Cond.code Lib.Math.min.name Lib.Math.min.code 2 (some .int) ∈ zTb
def zmin (x y : Int32) : Int32 := if y < x then y else x
theorem g_min {idx : Nat} {x y : Int32} (h : Cx E Γ own cc nL d) (hw : zWM_min own idx) (hd : decode cc pc = .ok (.invokestatic idx, 3)) (hdd : 1 ≤ d) (hst : (st.map fun v => v.category).sum ≤ 8) (k : G E Γ nL (pc + 3) lv (.int (zmin x y) :: st) M) : G E Γ nL pc lv (.int y :: .int x :: st) M := by
  obtain ⟨p, e, R, s, m, args, below, meth, c1, Q, A, ce, sl⟩ := Γ
  obtain ⟨hx, hb, hml, hown, hts, hK, hA, ⟨hRf, hRl, hRc, hRs⟩, hlk, hN, hX⟩ := h
  intro ls H locs hl hP hD hS
  exact va_mmin hx hb (by rw [hml]; exact hl.1.symm) hown (hts _ hw.1) (hts _ hw.2.1) (hts _ hw.2.2.1) (hts _ hw.2.2.2) (Nat.le_trans hdd hRf) (by rw [zCat]; omega) hRc hRs hd (k ls H locs hl hP hD hS)
/-- System.arraycopy of ints, the whole of both rows' first n -/
def zWC (own : String) (idx : Nat) : Prop := Cond.methodLink own idx arraycopyName ∈ zTb ∧ Cond.native arraycopyName ∈ zTb ∧ Cond.static arraycopyName ∈ zTb ∧ Cond.initialized "java/lang/System" ∈ zTb
theorem g_copy {idx a b na nb : Nat} {sp dp n : Int32} (h : Cx E Γ own cc nL d) (hw : zWC own idx) (hd : decode cc pc = .ok (.invokestatic idx, 3)) (ha : zSH a = .inr (0, na)) (hb : zSH b = .inr (0, nb)) (h1 : ¬ sp < 0) (h2 : ¬ dp < 0) (h3 : ¬ n < 0) (h4 : sp.toNatClampNeg + n.toNatClampNeg ≤ na) (h5 : dp.toNatClampNeg + n.toNatClampNeg ≤ nb) (hdd : 1 ≤ d) (hst : (st.map fun v => v.category).sum ≤ 8)
    (k : G E Γ nL (pc + 3) lv st (zSA M b (va_cpy (M.1 a) (M.1 b) sp.toNatClampNeg dp.toNatClampNeg n.toNatClampNeg))) : G E Γ nL pc lv (.int n :: .int dp :: .ref b :: .int sp :: .ref a :: st) M := by
  obtain ⟨p, e, R, s, m, args, below, meth, c1, Q, A, ce, sl⟩ := Γ
  obtain ⟨hx, hb0, hml, hown, hts, hK, hA, ⟨hRf, hRl, hRc, hRs⟩, hlk, hN, hX⟩ := h
  intro ls H locs hl hP hD hS
  have ea : (zWE E M)[a]? = some (E.2.2.2 a, .inl (E.2.2.1 0, na, .inl (M.1 a))) := zW_arr ha
  have eb : (zWE E M)[b]? = some (E.2.2.2 b, .inl (E.2.2.1 0, nb, .inl (M.1 b))) := zW_arr hb
  have h40 : nativeFrameWords "java/lang/System" "arraycopy" 5 ≤ 40 := by decide +kernel
  have hloc : ((st.map (zv E.2.2.2)).map fun v => v.category).sum + (nativeFrameWords "java/lang/System" "arraycopy" 5 + 11) ≤ R.locals := by
    rw [zCat]
    omega
  refine va_copyi (ty := .int) hx hb0 (by rw [hml]; exact hl.1.symm) hown (hts _ hw.1) (hts _ hw.2.1) (hts _ hw.2.2.1) (hts _ hw.2.2.2) hK hP hD hS a b 0 0 ea eb rfl rfl rfl h1 h2 h3 h4 h5 (fun _ _ => rfl) (Nat.le_trans hdd hRf) hloc hd (fun H1 locs1 hP1 hD1 hS1 => ?_)
  rw [zW_row hb] at hP1 hD1
  exact k ls H1 locs1 hl hP1 hD1 hS1
/-! what lies outside the world: the row PLAIN, the text of names -/
theorem g_getsP {idx : Nat} (h : Cx E Γ own cc nL d) (hw : Cond.fieldLink own idx "LostByState$Rule" "PLAIN" "[I" ∈ zTb) (hd : decode cc pc = .ok (.getstatic idx, 3)) (k : G E Γ nL (pc + 3) lv (.ref 145 :: st) M) : G E Γ nL pc lv st M := by
  obtain ⟨p, e, R, s, m, args, below, meth, c1, Q, A, ce, sl⟩ := Γ
  obtain ⟨hx, hb, hml, hown, hts, hK, hA, ⟨hRf, hRl, hRc, hRs⟩, hlk, hN, hX⟩ := h
  intro ls H locs hl hP hD hS
  exact va_gets hx hb hX.1.1 hS hown (hts _ hw) (fun _ h9 => h9) hd (k ls H locs hl hP hD hS)
theorem g_alenP (h : Cx E Γ own cc nL d) (hd : decode cc pc = .ok (.arraylength, 1)) (k : G E Γ nL (pc + 1) lv (.int 9 :: st) M) : G E Γ nL pc lv (.ref 145 :: st) M := by
  obtain ⟨p, e, R, s, m, args, below, meth, c1, Q, A, ce, sl⟩ := Γ
  obtain ⟨hx, hb, hml, hown, hts, hK, hA, ⟨hRf, hRl, hRc, hRs⟩, hlk, hN, hX⟩ := h
  intro ls H locs hl hP hD hS
  exact va_slen hx hb hX.1.2.1 hX.1.2.2.1 hX.1.2.2.2 hS hd (k ls H locs hl hP hD hS)
theorem g_copyP {idx b nb : Nat} (h : Cx E Γ own cc nL d) (hw : zWC own idx) (hd : decode cc pc = .ok (.invokestatic idx, 3)) (hb : zSH b = .inr (0, nb)) (h5 : 9 ≤ nb) (hdd : 1 ≤ d) (hst : (st.map fun v => v.category).sum ≤ 8)
    (k : G E Γ nL (pc + 3) lv st (zSA M b (va_cpy (fun j => zPlain.getD j 0) (M.1 b) 0 0 9))) : G E Γ nL pc lv (.int 9 :: .int 0 :: .ref b :: .int 0 :: .ref 145 :: st) M := by
  obtain ⟨p, e, R, s, m, args, below, meth, c1, Q, A, ce, sl⟩ := Γ
  obtain ⟨hx, hb0, hml, hown, hts, hK, hA, ⟨hRf, hRl, hRc, hRs⟩, hlk, hN, hX⟩ := h
  intro ls H locs hl hP hD hS
  have eb : (zWE E M)[b]? = some (E.2.2.2 b, .inl (E.2.2.1 0, nb, .inl (M.1 b))) := zW_arr hb
  have h40 : nativeFrameWords "java/lang/System" "arraycopy" 5 ≤ 40 := by decide +kernel
  have hloc : ((st.map (zv E.2.2.2)).map fun v => v.category).sum + (nativeFrameWords "java/lang/System" "arraycopy" 5 + 11) ≤ R.locals := by
    rw [zCat]
    omega
  refine va_copyx hx hb0 (by rw [hml]; exact hl.1.symm) hown (hts _ hw.1) (hts _ hw.2.1) (hts _ hw.2.2.1) (hts _ hw.2.2.2) hK hP hD hS hX.1.2.1 hX.1.2.2.1 hX.1.2.2.2 b 0 eb rfl (sp := 0) (dp := 0) (n := 9) (by decide) (by decide) (by decide) (by decide) (show 0 + 9 ≤ nb by omega) (Nat.le_trans hdd hRf) hloc hd (fun H1 locs1 hP1 hD1 hS1 => ?_)
  rw [zW_row hb] at hP1 hD1
  exact k ls H1 locs1 hl hP1 hD1 hS1
theorem g_ldcS (h : Cx E Γ "LostByState$RuleReader" cc nL d) (hd : decode cc pc = .ok (.ldc 77, 2)) (k : G E Γ nL (pc + 2) lv (.ref 146 :: st) M) : G E Γ nL pc lv st M := by
  obtain ⟨p, e, R, s, m, args, below, meth, c1, Q, A, ce, sl⟩ := Γ
  obtain ⟨hx, hb, hml, hown, hts, hK, hA, ⟨hRf, hRl, hRc, hRs⟩, hlk, hN, hX⟩ := h
  intro ls H locs hl hP hD hS
  exact va_ldcS hx hb hown hX.2.1.1 hd (k ls H locs hl hP hD hS)
theorem g_i2c {x : Int32} (h : Cx E Γ own cc nL d) (hd : decode cc pc = .ok (.i2c, 1)) (k : G E Γ nL (pc + 1) lv (.int (x.toUInt32 % 65536).toInt32 :: st) M) : G E Γ nL pc lv (.int x :: st) M := by
  obtain ⟨p, e, R, s, m, args, below, meth, c1, Q, A, ce, sl⟩ := Γ
  intro ls H locs hl hP hD hS
  exact lv_i2c h.1 h.2.1 hd rfl (k ls H locs hl hP hD hS)
theorem g_getsC {idx : Nat} (h : Cx E Γ own cc nL d) (hw : Cond.fieldLink own idx "java/lang/String" "COMPACT_STRINGS" "Z" ∈ zTb) (hd : decode cc pc = .ok (.getstatic idx, 3)) (k : G E Γ nL (pc + 3) lv (.int 1 :: st) M) : G E Γ nL pc lv st M := by
  obtain ⟨p, e, R, s, m, args, below, meth, c1, Q, A, ce, sl⟩ := Γ
  obtain ⟨hx, hb, hml, hown, hts, hK, hA, ⟨hRf, hRl, hRc, hRs⟩, hlk, hN, hX⟩ := h
  intro ls H locs hl hP hD hS
  exact va_gets hx hb hX.2.2 hS hown (hts _ hw) (fun _ h9 => h9) hd (k ls H locs hl hP hD hS)
theorem g_getV {idx : Nat} (h : Cx E Γ own cc nL d) (hw : Cond.fieldLink own idx "java/lang/String" "value" "[B" ∈ zTb) (hd : decode cc pc = .ok (.getfield idx, 3)) (k : G E Γ nL (pc + 3) lv (.ref 147 :: st) M) : G E Γ nL pc lv (.ref 146 :: st) M := by
  obtain ⟨p, e, R, s, m, args, below, meth, c1, Q, A, ce, sl⟩ := Γ
  obtain ⟨hx, hb, hml, hown, hts, hK, hA, ⟨hRf, hRl, hRc, hRs⟩, hlk, hN, hX⟩ := h
  intro ls H locs hl hP hD hS
  exact va_getX (N := 1) (i := 0) (v := fun _ => .ref (E.2.2.2 147)) (ad := fun _ => E.2.2.2 146) hx hb (fun _ _ => hX.2.1.2.2.1) (by decide) hS hown (hts _ hw) (fun _ h9 => h9) hd (k ls H locs hl hP hD hS)
theorem g_getCo {idx : Nat} (h : Cx E Γ own cc nL d) (hw : Cond.fieldLink own idx "java/lang/String" "coder" "B" ∈ zTb) (hd : decode cc pc = .ok (.getfield idx, 3)) (k : G E Γ nL (pc + 3) lv (.int 0 :: st) M) : G E Γ nL pc lv (.ref 146 :: st) M := by
  obtain ⟨p, e, R, s, m, args, below, meth, c1, Q, A, ce, sl⟩ := Γ
  obtain ⟨hx, hb, hml, hown, hts, hK, hA, ⟨hRf, hRl, hRc, hRs⟩, hlk, hN, hX⟩ := h
  intro ls H locs hl hP hD hS
  exact va_getX (N := 1) (i := 0) (v := fun _ => .int 0) (ad := fun _ => E.2.2.2 146) hx hb (fun _ _ => hX.2.1.2.2.2.1) (by decide) hS hown (hts _ hw) (fun _ h9 => h9) hd (k ls H locs hl hP hD hS)
theorem g_alenB (h : Cx E Γ own cc nL d) (hd : decode cc pc = .ok (.arraylength, 1)) (k : G E Γ nL (pc + 1) lv (.int 6 :: st) M) : G E Γ nL pc lv (.ref 147 :: st) M := by
  obtain ⟨p, e, R, s, m, args, below, meth, c1, Q, A, ce, sl⟩ := Γ
  obtain ⟨hx, hb, hml, hown, hts, hK, hA, ⟨hRf, hRl, hRc, hRs⟩, hlk, hN, hX⟩ := h
  intro ls H locs hl hP hD hS
  exact va_tlen hx hb hX.2.1.2.2.2.2 hS (by decide) hd (k ls H locs hl hP hD hS)
def zNm (i : Nat) : Int32 := ([109, 120, 121, 119, 100, 110] : List Int32).getD i 0
theorem g_baloadB {i : Int32} (h : Cx E Γ own cc nL d) (hd : decode cc pc = .ok (.baload, 1)) (hi : zin i 6) (k : G E Γ nL (pc + 1) lv (.int (zNm i.toNatClampNeg) :: st) M) : G E Γ nL pc lv (.int i :: .ref 147 :: st) M := by
  obtain ⟨p, e, R, s, m, args, below, meth, c1, Q, A, ce, sl⟩ := Γ
  obtain ⟨hx, hb, hml, hown, hts, hK, hA, ⟨hRf, hRl, hRc, hRs⟩, hlk, hN, hX⟩ := h
  intro ls H locs hl hP hD hS
  exact va_tb hx hb hX.2.1.2.2.2.2 hS (zin_vp hi) rfl hd (k ls H locs hl hP hD hS)
def zWT (own : String) (idx : Nat) (y : MethodName) (cc : ByteArray) (nL : Nat) (rt : Option FieldType) (n : Nat) : Prop :=
  zWd own idx y cc nL rt n ∧ Cond.methodLink own idx y ∈ zTb ∧ Cond.instanceMethod y ∈ zTb ∧ Cond.selects "java/lang/String" y y ∈ zTb
theorem g_callTi {idx n nL' d' : Nat} {y : MethodName} {cc' : ByteArray} {rt' : Option FieldType} (as : List Value) {post : Int32 → zM → Prop} (h : Cx E Γ own cc nL d) (hw : zWT own idx y cc' nL' rt' n) (hd : decode cc pc = .ok (.invokevirtual idx, 3)) (hn : as.length = n) (hdd : d' + 1 ≤ d) (hst : (st.map fun v => v.category).sum ≤ 8) (hM : CMi E d' y cc' nL' rt' (.ref 146 :: as) M post) (kk : ∀ (r : Int32) (N : zM), post r N → G E Γ nL (pc + 3) lv (.int r :: st) N) : G E Γ nL pc lv (as.reverse ++ .ref 146 :: st) M := by
  obtain ⟨p, e, R, s, m, args, below, meth, c1, Q, A, ce, sl⟩ := Γ
  obtain ⟨hx, hb, hml, hown, hts, hK, hA, ⟨hRf, hRl, hRc, hRs⟩, hlk, hN, hX⟩ := h
  intro ls H locs hl hP hD hS
  obtain ⟨⟨⟨w1, w2, w3, w4, w5⟩, w6⟩, w7, w8, w10⟩ := hw
  have hR : (zRm d').frames + 1 ≤ R.frames ∧ 8 + (nL' + 11) + (zRm d').locals ≤ R.locals := ⟨Nat.le_trans hdd hRf, by show 8 + (nL' + 11) + 64 * d' ≤ R.locals; omega⟩
  refine va_calli (va_runV (C := "java/lang/String") (As := as.map (zv E.2.2.2)) (rest := st.map (zv E.2.2.2)) ⟨hx, hb, hml, hown, hts⟩ (hM H.size) ⟨callB_of n hts (zGood w1) rfl rfl rfl (hts _ w2) (hts _ w7) ⟨w3, w4, w5⟩ hR, hts _ w8, hts _ w10⟩ ⟨zPre.blind, va_Orecv hX.2.1.2.1 hS, fun U hU hW => ⟨rfl, zPre.mk hP hD hS hA hK hN hX hU hW⟩⟩ rfl (by rw [List.length_map]; exact hn) hl.1 (by show List.map _ (as.reverse ++ .ref 146 :: st) = _; rw [List.map_append, List.map_reverse]; rfl) (lv_room (by rw [zCat]; exact hst)) hd ⟨hRc, hRs⟩) hS (fun q _ hq => zFree hD hS hA q hq) (zFree hD hS hA) (fun r u t H1 locs1 ht hvm hw hB hz1 hk1 hS1 => ?_)
  obtain ⟨hP1, hK1, hD1⟩ := hB
  rw [ht] at hP1
  exact kk r u hw ls H1 locs1 hl hP1 (hD1.weaken (fun _ _ _ ha => zFree hD hS hA _ ha)) hS1
end ZC
