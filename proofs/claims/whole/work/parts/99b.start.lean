/-! THE LAW'S START, AND THE CLAIM -/
theorem start_loop {p : Program} {e : Env} {s : State} {m : MethodId} {below : List Frame} {meth : Method} {c : Code} {l : Launch} {b L : Nat} {xs : Nat → Int32} (hL : L ≤ 2560) (C0 : lw_At p s m meth c b L xs) (htr : l.stackTraces = false) {D : va_G} {cy : Nat → ClassId} {o : Nat → Nat} (ho : o 148 = b) (hK : va_K D vwCl (zTy cy) s) (hN : zNw s) (hEx : ∀ ad : Nat → Nat, (∀ k, 145 ≤ k → ad k = o k) → zEx ad (fun q => s.heap.size ≤ q) s) (hTx : zTx (fun q => s.heap.size ≤ q) s) (q1 : Nat) (u : (Nat → Nat → Nat) × (Nat → Nat → Nat)) (q2 : Nat) (f : Nat → Nat) (q3 : Nat) :
    GC (l, D, cy, o 145) (p, e, room_1, s, m, #[Value.ref b], below, meth, c, lw_Z below #[Value.ref b] s, fun q => s.heap.size ≤ q) 145 6318 8 23 [(4, .int 0), (3, .ref q3), (2, .ref q2), (1, .ref q1), (0, .ref b)] [] (wL (l, D, cy, o 145) q1 u q2 f q3) := by
  obtain ⟨hx, hb, hr, hml, hown, hts, hX, hbl, hlk, hgv⟩ := C0
  have hz : ∀ w ∈ zTb, w.before #[Value.ref b] s = true := fun w hw => hts w (List.mem_filter.mp hw).1
  have hcx : ∀ ce sl, ce ≤ 145 + 1 * 512 → sl ≤ 6318 + 6 * 512 → Cx (l, D, cy, zAd q1 u q2 f q3 o) (gL p e s m b below meth c ce sl) RLw code 8 1000 := fun ce sl h1 h2 => ⟨hx, hb, hml, hown, hz, hK, fun q h => h, ⟨by decide, by decide, by show ce ≤ 601024; omega, by show sl ≤ 7293033; omega⟩, hlk, hN, hEx _ (fun k hk => zAd_o q1 u q2 f q3 o hk)⟩
  have e8 : zAd q1 u q2 f q3 o 148 = b := (zAd_o q1 u q2 f q3 o (by decide)).trans ho
  have hsc : ∀ ce sl, Scr (l, D, cy, zAd q1 u q2 f q3 o) (gL p e s m b below meth c ce sl) L xs := fun ce sl => by
    show va_X (zAd q1 u q2 f q3 o 148) L xs s s.heap ∧ zAd q1 u q2 f q3 o 148 < s.heap.size ∧ ¬ s.heap.size ≤ zAd q1 u q2 f q3 o 148
    rw [e8]
    exact ⟨hX, hbl, Nat.not_le.mpr hbl⟩
  have main : G (l, D, cy, zAd q1 u q2 f q3 o) (gL p e s m b below meth c 145 6318) 8 23 (lvL 0) [] M0 := by
    refine law_loop (Γ := gL p e s m b below meth c) (c0 := 145) (s0 := 6318) (KC := 1) (KS := 6) hcx (by decide) hsc hL ?_ ?_ 512 0 0 145 6318 M0 rfl (by omega) (by omega) (by omega) (by omega) M0_first.all
    · intro pc hpc ce sl i N M h1 h2 hN5 hi h k
      have g1 := hcx ce sl (by omega) (by omega)
      have g2 := hcx (ce + 1) (sl + 6) (by omega) (by omega)
      have k2 : ∀ M2, RAll M2 (N + 1) → G (l, D, cy, zAd q1 u q2 f q3 o) (gL p e s m b below meth c (ce + 1) (sl + 6)) 8 1565 (lvL i) [] M2 := fun M2 hR => k (ce + 1) (sl + 6) M2 (by omega) (by omega) hR
      rcases hpc with rfl | rfl | rfl
      · exact law_thing g1 g2 (by decide) (hsc _ _) (hsc _ _) hL hi hTx htr ⟨by omega, by omega⟩ h k2
      · exact law_deed g1 g2 (by decide) (hsc _ _) (hsc _ _) hL hi hTx htr ⟨by omega, by omega⟩ h k2
      · exact law_row g1 g2 (by decide) (hsc _ _) (hsc _ _) hL hi hTx htr ⟨by omega, by omega⟩ h k2
    · intro ce sl i M h1 h2
      exact law_fin (hcx ce sl h1 h2) hr (by omega) (by omega)
  intro ls H locs hl hP hD hS
  refine main ls H locs ?_ (place_P hP) (place_D hD M0) hS
  have e9 : zlv (zAd q1 u q2 f q3 o) (lvL 0) = [(0, .ref b), (1, .ref q1), (2, .ref q2), (3, .ref q3), (4, .int 0)] := by
    show [(0, Value.ref (zAd q1 u q2 f q3 o 148)), (1, Value.ref (zAd q1 u q2 f q3 o 0)), (2, Value.ref (zAd q1 u q2 f q3 o 36)), (3, Value.ref (zAd q1 u q2 f q3 o 59)), (4, Value.int (nI 0))] = _
    rw [e8]
    rfl
  show lv_has ls 8 (zlv (zAd q1 u q2 f q3 o) (lvL 0))
  rw [e9]
  exact lv_sub hl [4, 3, 2, 1, 0] rfl
set_option maxHeartbeats 1000000 in
theorem whole_start {p : Program} {e : Env} {s : State} {m : MethodId} {below : List Frame} {meth : Method} {c : Code} (l : Launch) (hfl : l.flags = flags0) {b L : Nat} {xs : Nat → Int32} (hL : L ≤ 2560) (C0 : lw_At p s m meth c b L xs) : W p l e room_1 s m #[Value.ref b] below meth c s.heap [] 0 0 (lw_Z below #[Value.ref b] s) (entryFrame m ([Value.ref b] : List Value).toArray 8) := by
  obtain ⟨D, cy, o, ho, hK, hN, hPl, hAO, hEx, hTx⟩ := law_env C0
  have htr : l.stackTraces = false := by unfold Launch.stackTraces; rw [hfl]; decide
  have C1 := C0
  obtain ⟨hx, hb, hr, hml, hown, hts, hX, hbl, hlk, hgv⟩ := C0
  have hz : ∀ w ∈ zTb, w.before #[Value.ref b] s = true := fun w hw => hts w (List.mem_filter.mp hw).1
  have hC : Kx (l, D, cy, o 145) (p, e, room_1, s, m, #[Value.ref b], below, meth, c, lw_Z below #[Value.ref b] s, fun q => s.heap.size ≤ q) RLw code 8 1000 145 6318 := ⟨hx, hb, hml, hown, hz, hK, fun q h => h, ⟨by decide, by decide, by decide, by decide⟩, hlk, hN, hPl, hAO⟩
  have main : GC (l, D, cy, o 145) (p, e, room_1, s, m, #[Value.ref b], below, meth, c, lw_Z below #[Value.ref b] s, fun q => s.heap.size ≤ q) 0 0 8 0 [(0, .ref b)] [] [] := by
    refine k_new (ci := 11) (C := RX11) (T := TX11) (N := 19) (fs := [.null, .null, .null, .null, .null, .null, .null, .null, .null, .null, .null, .null, .null, .null, .null, .null, .int 0, .int 0, .int 0]) hC uX11 tyX11 tyX11_ok kt_26 kt_27 kt_1 rfl (by decide +kernel) (by decide) (by decide) dS_0 (fun q1 => ?_)
    refine k_dup hC dS_3 rfl ?_
    refine k_init (d' := 3) (mc' := 120) (ms' := 3525) [] hC kwLw_22 rfl dS_4 rfl (by decide) (Nat.le_of_ble_eq_true rfl) (by decide) (by decide) (cK11 _ q1) (fun u => ?_)
    refine k_astore (i := 1) (lv2 := [(1, .ref q1), (0, .ref b)]) hC dS_7 rfl (by decide) rfl ?_
    refine k_new (ci := 12) (C := RX12) (T := TX12) (N := 41) (fs := [.null, .int 0, .int 0, .int 0, .int 0, .null, .null, .null, .null, .int 0, .null, .int 0, .int 0, .null, .int 0, .int 0, .int 0, .int 0, .null, .null, .null, .int 0, .int 0, .null, .null, .int 0, .null, .null, .null, .null, .null, .int 0, .int 0, .null, .null, .null, .int 0, .int 0, .null, .null, .null]) hC uX12 tyX12 tyX12_ok kt_1096 kt_1097 kt_14 rfl (by decide +kernel) (by decide) (by decide) dS_8 (fun q2 => ?_)
    refine k_dup hC dS_11 rfl ?_
    refine k_init (d' := 1) (mc' := 22) (ms' := 2732) [] hC kwLw_25 rfl dS_12 rfl (by decide) (Nat.le_of_ble_eq_true rfl) (by decide) (by decide) (cK12 _ q2) (fun f => ?_)
    refine k_astore (i := 2) (lv2 := [(2, .ref q2), (1, .ref q1), (0, .ref b)]) hC dS_15 rfl (by decide) rfl ?_
    refine k_iconst (v := 1) hC dS_16 (by decide +kernel) ?_
    refine k_newa (t := 1) (N' := 1) (a0 := (1, .inr (.inl (fun _ => 0)))) (ty := .long) hC kt_67 rfl rfl (fun _ => rfl) (by decide) (by decide +kernel) (by decide) (by decide) (by decide) dS_17 (fun q3 => ?_)
    refine k_astore (i := 3) (lv2 := [(3, .ref q3), (2, .ref q2), (1, .ref q1), (0, .ref b)]) hC dS_19 rfl (by decide) rfl ?_
    refine k_iconst (v := 0) hC dS_20 (by decide +kernel) ?_
    refine k_istoreW (i := 4) (lv2 := [(4, .int 0), (3, .ref q3), (2, .ref q2), (1, .ref q1), (0, .ref b)]) hC dS_21 (by decide) rfl ?_
    exact start_loop hL C1 htr ho hK hN hEx hTx q1 u q2 f q3
  have hl := lv_entry ([.ref b] : List Value) (n := 8) (Nat.le_of_ble_eq_true rfl)
  rw [lg_entry_eq]
  exact main _ _ [] hl (fun k q hk => (by cases hk)) ⟨fun i j x y hi => (by cases hi), fun k q hk => (by cases hk)⟩ va_S.rf
set_option maxHeartbeats 4000000 in
theorem lw_walk (l : Launch) (hfl : l.flags = flags0) (b : Addr) (xs : List Int32) : MetFree l x (headSpec (Jvm.Cond.code x code maxLocals ret :: tables_1) room_1) (lw_P b xs) (fun _ _ _ _ _ => True) lw_Q := by
  refine MetFree.of_bodyS (code := code) (maxLocals := maxLocals) (ret := ret) (by decide) ?_ ?_
  · intro args s m h hn
    obtain ⟨meth, c, h1, h2, h3, h4, h5, h6, -, -⟩ := Cond.code_spec hn (atoms_spec (ws := Jvm.Cond.code x code maxLocals ret :: tables_1) h _ List.mem_cons_self)
    exact ⟨meth, c, h1, h2, h3, h4, h5, h6⟩
  · intro p e s m args below meth c s₁ B hml0 hP _
    obtain ⟨rfl, hx, hbd, hgv⟩ := hP
    obtain ⟨scr, harrAt, hlist, hof, hsmall⟩ := hx
    obtain ⟨hcb, hkn, -, -⟩ := State.arrayAt?_spec harrAt
    have hown : s.vm.findClass R_law = some m.cls := findClass_of_methodNamed B.named
    have hts0 : ∀ c ∈ (Jvm.Cond.code x code maxLocals ret :: tables_1), c.before #[Value.ref b] s = true := atoms_spec (ws := Jvm.Cond.code x code maxLocals ret :: tables_1) B.pre
    have hts : ∀ w ∈ lw_tbl, w.before #[Value.ref b] s = true := k2_hts_sels lw_privs (fun w hw => hts0 w (List.mem_cons_of_mem _ hw)) lw_privs_ok
    have hml : c.maxLocals = 8 := B.maxLocals_eq (hts0 _ List.mem_cons_self)
    have X₀ : Stand p l e room_1 s m #[Value.ref b] below meth c s₁ [] 0 0 := Stand.of_body B
    have hh0 : s₁.heap = s.heap := by rw [B.state]; rfl
    have hsz : scr.slots.size = xs.length := by rw [← Array.length_toList, hlist, List.length_map]
    have hval : ∀ j : Nat, j < xs.length → scr.slots[j]? = some (.int (xs.getD j 0)) := fun j hj => by
      rw [← Array.getElem?_toList, hlist]
      simp [hj]
    have hbl : b < s.heap.size := (Array.getElem?_eq_some_iff.mp hcb).1
    have hX : va_X b xs.length (fun j => xs.getD j 0) s s.heap := ⟨scr, hcb, hof, hkn, hsz, hval⟩
    have K : W p l e room_1 s m #[Value.ref b] below meth c s₁.heap [] 0 0 (lw_Z below #[Value.ref b] s) (entryFrame m ([Value.ref b] : List Value).toArray 8) := by
      rw [hh0]
      exact whole_start l hfl hbd ⟨B.exec, B.bytes, B.returns, hml, hown, hts, hX, hbl, B.notSynchronized, hgv⟩
    obtain ⟨t, a1, o, b1, b2, b3⟩ := K s₁ rfl X₀
    exact ⟨t, o, a1, b1, b2, b3⟩
theorem lw_pre_spec {args : Array Value} {s : State} (h : (Jvm.Cond.and given_1 narrow_1).before args s = true) (hr : rest_1_c.before args s = true) : ∃ (b : Addr) (xs : List Int32), lw_P b xs args s := by
  have hs := flat_of_before _ h
  have hq := flat_of_before _ hr
  have hc : (Cond.count 1).before args s = true := hs _ (by decide +kernel)
  have harr : (Cond.arrayOf (.arg 0) .int).before args s = true := hs _ (by decide +kernel)
  have hle : (Cond.le (.length (.arg 0)) (.int 2560)).before args s = true := hs _ (by decide +kernel)
  have hlen : (Cond.isInt (.length (.arg 0))).before args s = true := hq _ (by decide +kernel)
  have hall : (Cond.all (.arg 0) (.isInt (.elem (.arg 0) (.index 0)))).before args s = true := hq _ (by decide +kernel)
  obtain ⟨b, xs, hb, hx⟩ := State.ints_of_pre rfl harr hlen hall
  have hsm : xs.length < 2 ^ 31 := hx.choose_spec.2.2.2
  have hev : (Term.length (.arg 0)).eval args s none [] s = some (.int xs.length.toInt32) := hx.length_eval hb
  have hv := Cond.le_ints hev (show (Term.int 2560).eval args s none [] s = some (.int 2560) from rfl)
  have hd : xs.length.toInt32 ≤ 2560 := by
    simpa [Cond.before, Cond.holds, hv] using hle
  have hN : xs.length ≤ 2560 := (Int32.ofNat_le_ofNat hsm (by decide)).mp (show Int32.ofNat xs.length ≤ Int32.ofNat 2560 from hd)
  exact ⟨b, xs, Cond.one_arg hc (show args[0]? = some (.ref b) from hb), hx, hN, h⟩
theorem lw_comes (l : Launch) (hfl : l.flags = flags0) : Comes l x (Jvm.Cond.code x code maxLocals ret :: tables_1) room_1 (fun tb e args s => Calls_1 tb e args s ∧ rest_1 tb e args s ∧ Pre_1 tb e args s)
    (fun _ _ args s o t => lw_Q args s o t) := by
  intro p e ha hc hk s m args below hf hfit hheap happ hpre
  obtain ⟨b, xs, hP⟩ := lw_pre_spec hpre.2.2 hpre.2.1
  obtain ⟨k, o, h1, h2, h3, hQ⟩ := lw_walk l hfl b xs p e ha hc hk s m args below hf ((Spec.applies_iff_loose hf).mp happ).1 hP trivial
  exact ⟨k, o, h1, h2, h3, hQ⟩
theorem lw_frame {s t : State} {o : Outcome} {args : Array Value} (h : Framed s o t [] 601024 7293033) :
    Framed s o t (fieldLocs frame_1_writes args s ++ arrayLocs frame_1_arrays args s ++ staticLocs frame_1_statics s) 601024 7293033 := h
theorem lw_limb (L : Cond) (hL : ∀ (args : Array Value) (s t : State), L.after args s (.returned (some (.int 1))) t = true) :
    ArmFor flags0 classFile x code maxLocals ret World_1 tables_1 room_1 Calls_1 rest_1 Pre_1
      (fun tb e a s o t => postC L tb e a s o t ∧ Framed s o t (fieldLocs frame_1_writes a s ++ arrayLocs frame_1_arrays a s ++ staticLocs frame_1_statics s) 601024 7293033) := by
  intro l hfl _ _ p e ha hc hk s m args below hf hfit hheap happ hpre
  obtain ⟨k, o, h1, h2, h3, rfl, hF⟩ := lw_comes l hfl p e ha hc hk s m args below hf hfit hheap happ hpre
  exact ⟨k, _, h1, h2, h3, hL args s _, lw_frame hF⟩
theorem i_vc : Claimed_1_1 ∧ Claimed_1_2 := ⟨lw_limb limb_1_1 (fun args s t => by simp [limb_1_1, Cond.after, Cond.holds, Cond.value]), lw_limb limb_1_2 (fun args s t => Cond.after_iff.mpr (by
  first | (rw [show limb_1_2 = Cond.eq .result (.int 1) from rfl, Cond.eq_ints (x := 1) (y := 1) rfl rfl]; simp; done) | (simp [limb_1_2, Cond.value, Term.eval]; done)))⟩
