/-! thing, deed, row of the system where they return -/
theorem flX11_182 : zFl RX11 182 10 0 := ⟨RX10, TX10, 6, rfl, by decide, uX10, Or.inr ⟨_, List.mem_of_getElem? (i := 11) rfl⟩⟩
theorem flX11_185 : zFl RX11 185 10 1 := ⟨RX10, TX10, 6, rfl, by decide, uX10, Or.inr ⟨_, List.mem_of_getElem? (i := 12) rfl⟩⟩
theorem flX11_406 : zFl RX11 406 3 0 := ⟨RX3, TX3, 2, rfl, by decide, uX3, Or.inr ⟨_, List.mem_of_getElem? (i := 4) rfl⟩⟩
/-! LostByState.thing(II)I -/
theorem dX11_thing_0 : decode cX11_thing 0 = .ok (.aload_n 0, 1) := by decide +kernel
theorem dX11_thing_1 : decode cX11_thing 1 = .ok (.iload_n 1, 1) := by decide +kernel
theorem dX11_thing_2 : decode cX11_thing 2 = .ok (.invokevirtual 166, 3) := by decide +kernel
theorem dX11_thing_5 : decode cX11_thing 5 = .ok (.ifCond .ne 13, 3) := by decide +kernel
theorem dX11_thing_8 : decode cX11_thing 8 = .ok (.new 169, 3) := by decide +kernel
theorem dX11_thing_11 : decode cX11_thing 11 = .ok (.dup, 1) := by decide +kernel
theorem dX11_thing_12 : decode cX11_thing 12 = .ok (.ldc 171, 2) := by decide +kernel
theorem dX11_thing_14 : decode cX11_thing 14 = .ok (.invokespecial 173, 3) := by decide +kernel
theorem dX11_thing_17 : decode cX11_thing 17 = .ok (.athrow, 1) := by decide +kernel
theorem dX11_thing_18 : decode cX11_thing 18 = .ok (.iload_n 2, 1) := by decide +kernel
theorem dX11_thing_19 : decode cX11_thing 19 = .ok (.tableswitch 110 0 6 #[41, 51, 61, 71, 81, 91, 101], 41) := by decide +kernel
theorem dX11_thing_60 : decode cX11_thing 60 = .ok (.aload_n 0, 1) := by decide +kernel
theorem dX11_thing_61 : decode cX11_thing 61 = .ok (.getfield 26, 3) := by decide +kernel
theorem dX11_thing_64 : decode cX11_thing 64 = .ok (.getfield 176, 3) := by decide +kernel
theorem dX11_thing_67 : decode cX11_thing 67 = .ok (.iload_n 1, 1) := by decide +kernel
theorem dX11_thing_68 : decode cX11_thing 68 = .ok (.iaload, 1) := by decide +kernel
theorem dX11_thing_69 : decode cX11_thing 69 = .ok (.ireturn, 1) := by decide +kernel
theorem dX11_thing_70 : decode cX11_thing 70 = .ok (.aload_n 0, 1) := by decide +kernel
theorem dX11_thing_71 : decode cX11_thing 71 = .ok (.getfield 26, 3) := by decide +kernel
theorem dX11_thing_74 : decode cX11_thing 74 = .ok (.getfield 179, 3) := by decide +kernel
theorem dX11_thing_77 : decode cX11_thing 77 = .ok (.iload_n 1, 1) := by decide +kernel
theorem dX11_thing_78 : decode cX11_thing 78 = .ok (.iaload, 1) := by decide +kernel
theorem dX11_thing_79 : decode cX11_thing 79 = .ok (.ireturn, 1) := by decide +kernel
theorem dX11_thing_80 : decode cX11_thing 80 = .ok (.aload_n 0, 1) := by decide +kernel
theorem dX11_thing_81 : decode cX11_thing 81 = .ok (.getfield 33, 3) := by decide +kernel
theorem dX11_thing_84 : decode cX11_thing 84 = .ok (.getfield 182, 3) := by decide +kernel
theorem dX11_thing_87 : decode cX11_thing 87 = .ok (.iload_n 1, 1) := by decide +kernel
theorem dX11_thing_88 : decode cX11_thing 88 = .ok (.iaload, 1) := by decide +kernel
theorem dX11_thing_89 : decode cX11_thing 89 = .ok (.ireturn, 1) := by decide +kernel
theorem dX11_thing_90 : decode cX11_thing 90 = .ok (.aload_n 0, 1) := by decide +kernel
theorem dX11_thing_91 : decode cX11_thing 91 = .ok (.getfield 33, 3) := by decide +kernel
theorem dX11_thing_94 : decode cX11_thing 94 = .ok (.getfield 185, 3) := by decide +kernel
theorem dX11_thing_97 : decode cX11_thing 97 = .ok (.iload_n 1, 1) := by decide +kernel
theorem dX11_thing_98 : decode cX11_thing 98 = .ok (.iaload, 1) := by decide +kernel
theorem dX11_thing_99 : decode cX11_thing 99 = .ok (.ireturn, 1) := by decide +kernel
theorem dX11_thing_100 : decode cX11_thing 100 = .ok (.aload_n 0, 1) := by decide +kernel
theorem dX11_thing_101 : decode cX11_thing 101 = .ok (.getfield 33, 3) := by decide +kernel
theorem dX11_thing_104 : decode cX11_thing 104 = .ok (.getfield 188, 3) := by decide +kernel
theorem dX11_thing_107 : decode cX11_thing 107 = .ok (.iload_n 1, 1) := by decide +kernel
theorem dX11_thing_108 : decode cX11_thing 108 = .ok (.iaload, 1) := by decide +kernel
theorem dX11_thing_109 : decode cX11_thing 109 = .ok (.ireturn, 1) := by decide +kernel
theorem dX11_thing_110 : decode cX11_thing 110 = .ok (.aload_n 0, 1) := by decide +kernel
theorem dX11_thing_111 : decode cX11_thing 111 = .ok (.getfield 33, 3) := by decide +kernel
theorem dX11_thing_114 : decode cX11_thing 114 = .ok (.getfield 191, 3) := by decide +kernel
theorem dX11_thing_117 : decode cX11_thing 117 = .ok (.iload_n 1, 1) := by decide +kernel
theorem dX11_thing_118 : decode cX11_thing 118 = .ok (.iaload, 1) := by decide +kernel
theorem dX11_thing_119 : decode cX11_thing 119 = .ok (.ireturn, 1) := by decide +kernel
theorem dX11_thing_120 : decode cX11_thing 120 = .ok (.aload_n 0, 1) := by decide +kernel
theorem dX11_thing_121 : decode cX11_thing 121 = .ok (.getfield 26, 3) := by decide +kernel
theorem dX11_thing_124 : decode cX11_thing 124 = .ok (.iload_n 1, 1) := by decide +kernel
theorem dX11_thing_125 : decode cX11_thing 125 = .ok (.invokevirtual 194, 3) := by decide +kernel
theorem dX11_thing_128 : decode cX11_thing 128 = .ok (.ireturn, 1) := by decide +kernel
theorem dX11_thing_129 : decode cX11_thing 129 = .ok (.new 169, 3) := by decide +kernel
theorem dX11_thing_132 : decode cX11_thing 132 = .ok (.dup, 1) := by decide +kernel
theorem dX11_thing_133 : decode cX11_thing 133 = .ok (.ldc 197, 2) := by decide +kernel
theorem dX11_thing_135 : decode cX11_thing 135 = .ok (.invokespecial 173, 3) := by decide +kernel
theorem dX11_thing_138 : decode cX11_thing 138 = .ok (.athrow, 1) := by decide +kernel
def fX11_thing (x1 : Int32) (x2 : Int32) (M : zM) : Option Int32 := if (fX11_isThing x1 M) = 0 then (
  if False then (
  none) else none)
  else (
  if x2 = 0 then (
  if zin x1 8 then (
  some (M.1 6 x1.toNatClampNeg)) else none)
  else (
  if x2 = 1 then (
  if zin x1 8 then (
  some (M.1 7 x1.toNatClampNeg)) else none)
  else (
  if x2 = 2 then (
  if zin x1 8 then (
  some (M.1 61 x1.toNatClampNeg)) else none)
  else (
  if x2 = 3 then (
  if zin x1 8 then (
  some (M.1 62 x1.toNatClampNeg)) else none)
  else (
  if x2 = 4 then (
  if zin x1 8 then (
  some (M.1 63 x1.toNatClampNeg)) else none)
  else (
  if x2 = 5 then (
  if zin x1 8 then (
  some (M.1 64 x1.toNatClampNeg)) else none)
  else (
  if x2 = 6 then (
  (fX7_deedsThatNeed x1 M).bind fun (r8 : Int32) =>
  some r8)
  else (
  if False then (
  none) else none))))))))
set_option maxHeartbeats 4000000 in
theorem cX11_thing_ok {E : zE} {d : Nat} (hd : 1 ≤ d) (x1 : Int32) (x2 : Int32) (M : zM) {K : Int32 → Prop} (h : wpO (fX11_thing x1 x2 M) K) : CMi E d yX11_thing cX11_thing 3 (some .int) [.ref 0, .int x1, .int x2] M (fun r N => M = N ∧ K r) := by
  refine CMi.of (by decide) (Nat.le_of_ble_eq_true rfl) (fun Γ hC hr => ?_)
  have hC : Cx E Γ RX11 cX11_thing 3 d := hC
  show G E Γ 3 0 [(0, .ref 0), (1, .int x1), (2, .int x2)] [] M
  unfold fX11_thing at h
  refine g_aload_n (i := 0) (x := 0) hC (dX11_thing_0) rfl rfl ?_
  refine g_iload_n (i := 1) (x := x1) hC (dX11_thing_1) rfl rfl ?_
  refine g_callVi ([.int x1]) hC wvX11_166 (dX11_thing_2) rfl rfl (by omega) (Nat.le_of_ble_eq_true rfl) (cX11_isThing_ok (by omega) x1 M (K := fun r => r = fX11_isThing x1 M) rfl) (fun r N q => ?_)
  obtain ⟨rfl, rfl⟩ := q
  refine g_if_ne (tgt := 18) hC (dX11_thing_5) (by decide) (fun c5 => ?_) (fun c5 => ?_)
  · have h := wpO_f c5 h
    refine g_iload_n (i := 2) (x := x2) hC (dX11_thing_18) rfl rfl ?_
    rcases Decidable.em (x2 = 0) with c19_0 | c19_0
    · have h := wpO_t c19_0 h
      refine g_tswIn (tgt := 60) (off := 41) hC (dX11_thing_19) 0 c19_0 (by decide +kernel) (by decide +kernel) (by decide +kernel) (by decide +kernel) ?_
      refine g_aload_n (i := 0) (x := 0) hC (dX11_thing_60) rfl rfl ?_
      refine g_getR (r := 5) hC flX11_26 (dX11_thing_61) rfl rfl rfl ?_
      refine g_getR (r := 6) hC flX11_176 (dX11_thing_64) rfl rfl rfl ?_
      refine g_iload_n (i := 1) (x := x1) hC (dX11_thing_67) rfl rfl ?_
      obtain ⟨q2, h⟩ := wpO_g h
      refine g_iaload (n := 8) hC (dX11_thing_68) rfl q2 ?_
      refine g_ireturn hC hr (dX11_thing_69) ?_
      exact ⟨rfl, wpO_s h⟩
    · have h := wpO_f c19_0 h
      rcases Decidable.em (x2 = 1) with c19_1 | c19_1
      · have h := wpO_t c19_1 h
        refine g_tswIn (tgt := 70) (off := 51) hC (dX11_thing_19) 1 c19_1 (by decide +kernel) (by decide +kernel) (by decide +kernel) (by decide +kernel) ?_
        refine g_aload_n (i := 0) (x := 0) hC (dX11_thing_70) rfl rfl ?_
        refine g_getR (r := 5) hC flX11_26 (dX11_thing_71) rfl rfl rfl ?_
        refine g_getR (r := 7) hC flX11_179 (dX11_thing_74) rfl rfl rfl ?_
        refine g_iload_n (i := 1) (x := x1) hC (dX11_thing_77) rfl rfl ?_
        obtain ⟨q3, h⟩ := wpO_g h
        refine g_iaload (n := 8) hC (dX11_thing_78) rfl q3 ?_
        refine g_ireturn hC hr (dX11_thing_79) ?_
        exact ⟨rfl, wpO_s h⟩
      · have h := wpO_f c19_1 h
        rcases Decidable.em (x2 = 2) with c19_2 | c19_2
        · have h := wpO_t c19_2 h
          refine g_tswIn (tgt := 80) (off := 61) hC (dX11_thing_19) 2 c19_2 (by decide +kernel) (by decide +kernel) (by decide +kernel) (by decide +kernel) ?_
          refine g_aload_n (i := 0) (x := 0) hC (dX11_thing_80) rfl rfl ?_
          refine g_getR (r := 60) hC flX11_33 (dX11_thing_81) rfl rfl rfl ?_
          refine g_getR (r := 61) hC flX11_182 (dX11_thing_84) rfl rfl rfl ?_
          refine g_iload_n (i := 1) (x := x1) hC (dX11_thing_87) rfl rfl ?_
          obtain ⟨q4, h⟩ := wpO_g h
          refine g_iaload (n := 8) hC (dX11_thing_88) rfl q4 ?_
          refine g_ireturn hC hr (dX11_thing_89) ?_
          exact ⟨rfl, wpO_s h⟩
        · have h := wpO_f c19_2 h
          rcases Decidable.em (x2 = 3) with c19_3 | c19_3
          · have h := wpO_t c19_3 h
            refine g_tswIn (tgt := 90) (off := 71) hC (dX11_thing_19) 3 c19_3 (by decide +kernel) (by decide +kernel) (by decide +kernel) (by decide +kernel) ?_
            refine g_aload_n (i := 0) (x := 0) hC (dX11_thing_90) rfl rfl ?_
            refine g_getR (r := 60) hC flX11_33 (dX11_thing_91) rfl rfl rfl ?_
            refine g_getR (r := 62) hC flX11_185 (dX11_thing_94) rfl rfl rfl ?_
            refine g_iload_n (i := 1) (x := x1) hC (dX11_thing_97) rfl rfl ?_
            obtain ⟨q5, h⟩ := wpO_g h
            refine g_iaload (n := 8) hC (dX11_thing_98) rfl q5 ?_
            refine g_ireturn hC hr (dX11_thing_99) ?_
            exact ⟨rfl, wpO_s h⟩
          · have h := wpO_f c19_3 h
            rcases Decidable.em (x2 = 4) with c19_4 | c19_4
            · have h := wpO_t c19_4 h
              refine g_tswIn (tgt := 100) (off := 81) hC (dX11_thing_19) 4 c19_4 (by decide +kernel) (by decide +kernel) (by decide +kernel) (by decide +kernel) ?_
              refine g_aload_n (i := 0) (x := 0) hC (dX11_thing_100) rfl rfl ?_
              refine g_getR (r := 60) hC flX11_33 (dX11_thing_101) rfl rfl rfl ?_
              refine g_getR (r := 63) hC flX11_188 (dX11_thing_104) rfl rfl rfl ?_
              refine g_iload_n (i := 1) (x := x1) hC (dX11_thing_107) rfl rfl ?_
              obtain ⟨q6, h⟩ := wpO_g h
              refine g_iaload (n := 8) hC (dX11_thing_108) rfl q6 ?_
              refine g_ireturn hC hr (dX11_thing_109) ?_
              exact ⟨rfl, wpO_s h⟩
            · have h := wpO_f c19_4 h
              rcases Decidable.em (x2 = 5) with c19_5 | c19_5
              · have h := wpO_t c19_5 h
                refine g_tswIn (tgt := 110) (off := 91) hC (dX11_thing_19) 5 c19_5 (by decide +kernel) (by decide +kernel) (by decide +kernel) (by decide +kernel) ?_
                refine g_aload_n (i := 0) (x := 0) hC (dX11_thing_110) rfl rfl ?_
                refine g_getR (r := 60) hC flX11_33 (dX11_thing_111) rfl rfl rfl ?_
                refine g_getR (r := 64) hC flX11_191 (dX11_thing_114) rfl rfl rfl ?_
                refine g_iload_n (i := 1) (x := x1) hC (dX11_thing_117) rfl rfl ?_
                obtain ⟨q7, h⟩ := wpO_g h
                refine g_iaload (n := 8) hC (dX11_thing_118) rfl q7 ?_
                refine g_ireturn hC hr (dX11_thing_119) ?_
                exact ⟨rfl, wpO_s h⟩
              · have h := wpO_f c19_5 h
                rcases Decidable.em (x2 = 6) with c19_6 | c19_6
                · have h := wpO_t c19_6 h
                  refine g_tswIn (tgt := 120) (off := 101) hC (dX11_thing_19) 6 c19_6 (by decide +kernel) (by decide +kernel) (by decide +kernel) (by decide +kernel) ?_
                  refine g_aload_n (i := 0) (x := 0) hC (dX11_thing_120) rfl rfl ?_
                  refine g_getR (r := 5) hC flX11_26 (dX11_thing_121) rfl rfl rfl ?_
                  refine g_iload_n (i := 1) (x := x1) hC (dX11_thing_124) rfl rfl ?_
                  have h := wpO_b h
                  refine g_callVi ([.int x1]) hC wvX11_194 (dX11_thing_125) rfl rfl (by omega) (Nat.le_of_ble_eq_true rfl) (cX7_deedsThatNeed_ok (by omega) x1 M h) (fun r8 N q => ?_)
                  obtain ⟨rfl, h⟩ := q
                  refine g_ireturn hC hr (dX11_thing_128) ?_
                  exact ⟨rfl, wpO_s h⟩
                · have h := wpO_f c19_6 h
                  have zc19_0 : ¬ (x2).toInt = 0 := fun z => c19_0 (Int32.toInt_inj.mp (z.trans (by decide +kernel)))
                  have zc19_1 : ¬ (x2).toInt = 1 := fun z => c19_1 (Int32.toInt_inj.mp (z.trans (by decide +kernel)))
                  have zc19_2 : ¬ (x2).toInt = 2 := fun z => c19_2 (Int32.toInt_inj.mp (z.trans (by decide +kernel)))
                  have zc19_3 : ¬ (x2).toInt = 3 := fun z => c19_3 (Int32.toInt_inj.mp (z.trans (by decide +kernel)))
                  have zc19_4 : ¬ (x2).toInt = 4 := fun z => c19_4 (Int32.toInt_inj.mp (z.trans (by decide +kernel)))
                  have zc19_5 : ¬ (x2).toInt = 5 := fun z => c19_5 (Int32.toInt_inj.mp (z.trans (by decide +kernel)))
                  have zc19_6 : ¬ (x2).toInt = 6 := fun z => c19_6 (Int32.toInt_inj.mp (z.trans (by decide +kernel)))
                  refine g_tswOut (tgt := 129) hC (dX11_thing_19) (by omega) (by decide +kernel) ?_
                  obtain ⟨qF, h⟩ := wpO_g h
                  exact qF.elim
  · have h := wpO_t c5 h
    obtain ⟨qF, h⟩ := wpO_g h
    exact qF.elim
/-! LostByState.deed(II)I -/
theorem dX11_deed_0 : decode cX11_deed 0 = .ok (.aload_n 0, 1) := by decide +kernel
theorem dX11_deed_1 : decode cX11_deed 1 = .ok (.iload_n 1, 1) := by decide +kernel
theorem dX11_deed_2 : decode cX11_deed 2 = .ok (.invokevirtual 199, 3) := by decide +kernel
theorem dX11_deed_5 : decode cX11_deed 5 = .ok (.ifCond .ne 13, 3) := by decide +kernel
theorem dX11_deed_8 : decode cX11_deed 8 = .ok (.new 169, 3) := by decide +kernel
theorem dX11_deed_11 : decode cX11_deed 11 = .ok (.dup, 1) := by decide +kernel
theorem dX11_deed_12 : decode cX11_deed 12 = .ok (.ldc 202, 2) := by decide +kernel
theorem dX11_deed_14 : decode cX11_deed 14 = .ok (.invokespecial 173, 3) := by decide +kernel
theorem dX11_deed_17 : decode cX11_deed 17 = .ok (.athrow, 1) := by decide +kernel
theorem dX11_deed_18 : decode cX11_deed 18 = .ok (.aload_n 0, 1) := by decide +kernel
theorem dX11_deed_19 : decode cX11_deed 19 = .ok (.getfield 26, 3) := by decide +kernel
theorem dX11_deed_22 : decode cX11_deed 22 = .ok (.getfield 148, 3) := by decide +kernel
theorem dX11_deed_25 : decode cX11_deed 25 = .ok (.iload_n 1, 1) := by decide +kernel
theorem dX11_deed_26 : decode cX11_deed 26 = .ok (.iaload, 1) := by decide +kernel
theorem dX11_deed_27 : decode cX11_deed 27 = .ok (.aload_n 0, 1) := by decide +kernel
theorem dX11_deed_28 : decode cX11_deed 28 = .ok (.getfield 33, 3) := by decide +kernel
theorem dX11_deed_31 : decode cX11_deed 31 = .ok (.bipush 6, 2) := by decide +kernel
theorem dX11_deed_33 : decode cX11_deed 33 = .ok (.invokevirtual 204, 3) := by decide +kernel
theorem dX11_deed_36 : decode cX11_deed 36 = .ok (.iconst (-1), 1) := by decide +kernel
theorem dX11_deed_37 : decode cX11_deed 37 = .ok (.ixor, 1) := by decide +kernel
theorem dX11_deed_38 : decode cX11_deed 38 = .ok (.iand, 1) := by decide +kernel
theorem dX11_deed_39 : decode cX11_deed 39 = .ok (.istore_n 3, 1) := by decide +kernel
theorem dX11_deed_40 : decode cX11_deed 40 = .ok (.iload_n 2, 1) := by decide +kernel
theorem dX11_deed_41 : decode cX11_deed 41 = .ok (.tableswitch 49 0 2 #[27, 37, 39], 27) := by decide +kernel
theorem dX11_deed_68 : decode cX11_deed 68 = .ok (.aload_n 0, 1) := by decide +kernel
theorem dX11_deed_69 : decode cX11_deed 69 = .ok (.getfield 26, 3) := by decide +kernel
theorem dX11_deed_72 : decode cX11_deed 72 = .ok (.getfield 148, 3) := by decide +kernel
theorem dX11_deed_75 : decode cX11_deed 75 = .ok (.iload_n 1, 1) := by decide +kernel
theorem dX11_deed_76 : decode cX11_deed 76 = .ok (.iaload, 1) := by decide +kernel
theorem dX11_deed_77 : decode cX11_deed 77 = .ok (.ireturn, 1) := by decide +kernel
theorem dX11_deed_78 : decode cX11_deed 78 = .ok (.iload_n 3, 1) := by decide +kernel
theorem dX11_deed_79 : decode cX11_deed 79 = .ok (.ireturn, 1) := by decide +kernel
theorem dX11_deed_80 : decode cX11_deed 80 = .ok (.iload_n 3, 1) := by decide +kernel
theorem dX11_deed_81 : decode cX11_deed 81 = .ok (.ifCond .ne 7, 3) := by decide +kernel
theorem dX11_deed_84 : decode cX11_deed 84 = .ok (.iconst 1, 1) := by decide +kernel
theorem dX11_deed_85 : decode cX11_deed 85 = .ok (.goto 4, 3) := by decide +kernel
theorem dX11_deed_88 : decode cX11_deed 88 = .ok (.iconst 0, 1) := by decide +kernel
theorem dX11_deed_89 : decode cX11_deed 89 = .ok (.ireturn, 1) := by decide +kernel
theorem dX11_deed_90 : decode cX11_deed 90 = .ok (.new 169, 3) := by decide +kernel
theorem dX11_deed_93 : decode cX11_deed 93 = .ok (.dup, 1) := by decide +kernel
theorem dX11_deed_94 : decode cX11_deed 94 = .ok (.ldc 207, 2) := by decide +kernel
theorem dX11_deed_96 : decode cX11_deed 96 = .ok (.invokespecial 173, 3) := by decide +kernel
theorem dX11_deed_99 : decode cX11_deed 99 = .ok (.athrow, 1) := by decide +kernel
def fX11_deed (x1 : Int32) (x2 : Int32) (M : zM) : Option Int32 := if (fX11_isDeed x1 M) = 0 then (
  if False then (
  none) else none)
  else (
  if zin x1 6 then (
  (fX10_heldBy 60 6 M).bind fun (r3 : Int32) =>
  zlet ((M.1 8 x1.toNatClampNeg) &&& (r3 ^^^ (-1))) fun (x3_39 : Int32) =>
  if x2 = 0 then (
  some (M.1 8 x1.toNatClampNeg))
  else (
  if x2 = 1 then (
  some x3_39)
  else (
  if x2 = 2 then (
  if x3_39 = 0 then (
  some 1)
  else (
  some 0))
  else (
  if False then (
  none) else none)))) else none)
set_option maxHeartbeats 4000000 in
theorem cX11_deed_ok {E : zE} {d : Nat} (hd : 1 ≤ d) (x1 : Int32) (x2 : Int32) (M : zM) {K : Int32 → Prop} (h : wpO (fX11_deed x1 x2 M) K) : CMi E d yX11_deed cX11_deed 4 (some .int) [.ref 0, .int x1, .int x2] M (fun r N => M = N ∧ K r) := by
  refine CMi.of (by decide) (Nat.le_of_ble_eq_true rfl) (fun Γ hC hr => ?_)
  have hC : Cx E Γ RX11 cX11_deed 4 d := hC
  show G E Γ 4 0 [(0, .ref 0), (1, .int x1), (2, .int x2)] [] M
  unfold fX11_deed at h
  refine g_aload_n (i := 0) (x := 0) hC (dX11_deed_0) rfl rfl ?_
  refine g_iload_n (i := 1) (x := x1) hC (dX11_deed_1) rfl rfl ?_
  refine g_callVi ([.int x1]) hC wvX11_199 (dX11_deed_2) rfl rfl (by omega) (Nat.le_of_ble_eq_true rfl) (cX11_isDeed_ok (by omega) x1 M (K := fun r => r = fX11_isDeed x1 M) rfl) (fun r N q => ?_)
  obtain ⟨rfl, rfl⟩ := q
  refine g_if_ne (tgt := 18) hC (dX11_deed_5) (by decide) (fun c5 => ?_) (fun c5 => ?_)
  · have h := wpO_f c5 h
    refine g_aload_n (i := 0) (x := 0) hC (dX11_deed_18) rfl rfl ?_
    refine g_getR (r := 5) hC flX11_26 (dX11_deed_19) rfl rfl rfl ?_
    refine g_getR (r := 8) hC flX11_148 (dX11_deed_22) rfl rfl rfl ?_
    refine g_iload_n (i := 1) (x := x1) hC (dX11_deed_25) rfl rfl ?_
    obtain ⟨q2, h⟩ := wpO_g h
    refine g_iaload (n := 6) hC (dX11_deed_26) rfl q2 ?_
    refine g_aload_n (i := 0) (x := 0) hC (dX11_deed_27) rfl rfl ?_
    refine g_getR (r := 60) hC flX11_33 (dX11_deed_28) rfl rfl rfl ?_
    refine g_bipush (v := 6) hC (dX11_deed_31) kb_6 ?_
    have h := wpO_b h
    refine g_callVi ([.int 6]) hC wvX11_204 (dX11_deed_33) rfl rfl (by omega) (Nat.le_of_ble_eq_true rfl) (cX10_heldBy_ok (by omega) 60 6 M h) (fun r3 N q => ?_)
    obtain ⟨rfl, h⟩ := q
    refine g_iconst (v := (-1)) hC (dX11_deed_36) kc_m1 ?_
    refine g_ixor hC (dX11_deed_37) ?_
    refine g_iand hC (dX11_deed_38) ?_
    refine g_nmi (fun x3_39 e_x3_39 => ?_)
    have h := wpO_n e_x3_39 h
    refine g_istore_n (i := 3) (lv2 := [(3, .int x3_39), (0, .ref 0), (1, .int x1), (2, .int x2)]) hC (dX11_deed_39) rfl (by decide) rfl ?_
    refine g_iload_n (i := 2) (x := x2) hC (dX11_deed_40) rfl rfl ?_
    rcases Decidable.em (x2 = 0) with c41_0 | c41_0
    · have h := wpO_t c41_0 h
      refine g_tswIn (tgt := 68) (off := 27) hC (dX11_deed_41) 0 c41_0 (by decide +kernel) (by decide +kernel) (by decide +kernel) (by decide +kernel) ?_
      refine g_aload_n (i := 0) (x := 0) hC (dX11_deed_68) rfl rfl ?_
      refine g_getR (r := 5) hC flX11_26 (dX11_deed_69) rfl rfl rfl ?_
      refine g_getR (r := 8) hC flX11_148 (dX11_deed_72) rfl rfl rfl ?_
      refine g_iload_n (i := 1) (x := x1) hC (dX11_deed_75) rfl rfl ?_
      refine g_iaload (n := 6) hC (dX11_deed_76) rfl q2 ?_
      refine g_ireturn hC hr (dX11_deed_77) ?_
      exact ⟨rfl, wpO_s h⟩
    · have h := wpO_f c41_0 h
      rcases Decidable.em (x2 = 1) with c41_1 | c41_1
      · have h := wpO_t c41_1 h
        refine g_tswIn (tgt := 78) (off := 37) hC (dX11_deed_41) 1 c41_1 (by decide +kernel) (by decide +kernel) (by decide +kernel) (by decide +kernel) ?_
        refine g_iload_n (i := 3) (x := x3_39) hC (dX11_deed_78) rfl rfl ?_
        refine g_ireturn hC hr (dX11_deed_79) ?_
        exact ⟨rfl, wpO_s h⟩
      · have h := wpO_f c41_1 h
        rcases Decidable.em (x2 = 2) with c41_2 | c41_2
        · have h := wpO_t c41_2 h
          refine g_tswIn (tgt := 80) (off := 39) hC (dX11_deed_41) 2 c41_2 (by decide +kernel) (by decide +kernel) (by decide +kernel) (by decide +kernel) ?_
          refine g_iload_n (i := 3) (x := x3_39) hC (dX11_deed_80) rfl rfl ?_
          refine g_if_ne (tgt := 88) hC (dX11_deed_81) (by decide) (fun c81 => ?_) (fun c81 => ?_)
          · have h := wpO_f c81 h
            refine g_iconst (v := 0) hC (dX11_deed_88) kc_0 ?_
            refine g_ireturn hC hr (dX11_deed_89) ?_
            exact ⟨rfl, wpO_s h⟩
          · have h := wpO_t c81 h
            refine g_iconst (v := 1) hC (dX11_deed_84) kc_1 ?_
            refine g_goto (tgt := 89) hC (dX11_deed_85) (by decide) ?_
            refine g_ireturn hC hr (dX11_deed_89) ?_
            exact ⟨rfl, wpO_s h⟩
        · have h := wpO_f c41_2 h
          have zc41_0 : ¬ (x2).toInt = 0 := fun z => c41_0 (Int32.toInt_inj.mp (z.trans (by decide +kernel)))
          have zc41_1 : ¬ (x2).toInt = 1 := fun z => c41_1 (Int32.toInt_inj.mp (z.trans (by decide +kernel)))
          have zc41_2 : ¬ (x2).toInt = 2 := fun z => c41_2 (Int32.toInt_inj.mp (z.trans (by decide +kernel)))
          refine g_tswOut (tgt := 90) hC (dX11_deed_41) (by omega) (by decide +kernel) ?_
          obtain ⟨qF, h⟩ := wpO_g h
          exact qF.elim
  · have h := wpO_t c5 h
    obtain ⟨qF, h⟩ := wpO_g h
    exact qF.elim
/-! LostByState.row(I)J -/
theorem dX11_row_0 : decode cX11_row 0 = .ok (.iload_n 1, 1) := by decide +kernel
theorem dX11_row_1 : decode cX11_row 1 = .ok (.ifCond .lt 14, 3) := by decide +kernel
theorem dX11_row_4 : decode cX11_row 4 = .ok (.iload_n 1, 1) := by decide +kernel
theorem dX11_row_5 : decode cX11_row 5 = .ok (.aload_n 0, 1) := by decide +kernel
theorem dX11_row_6 : decode cX11_row 6 = .ok (.getfield 19, 3) := by decide +kernel
theorem dX11_row_9 : decode cX11_row 9 = .ok (.getfield 400, 3) := by decide +kernel
theorem dX11_row_12 : decode cX11_row 12 = .ok (.if_icmp .lt 14, 3) := by decide +kernel
theorem dX11_row_15 : decode cX11_row 15 = .ok (.new 169, 3) := by decide +kernel
theorem dX11_row_18 : decode cX11_row 18 = .ok (.dup, 1) := by decide +kernel
theorem dX11_row_19 : decode cX11_row 19 = .ok (.ldc_w 404, 3) := by decide +kernel
theorem dX11_row_22 : decode cX11_row 22 = .ok (.invokespecial 173, 3) := by decide +kernel
theorem dX11_row_25 : decode cX11_row 25 = .ok (.athrow, 1) := by decide +kernel
theorem dX11_row_26 : decode cX11_row 26 = .ok (.aload_n 0, 1) := by decide +kernel
theorem dX11_row_27 : decode cX11_row 27 = .ok (.getfield 19, 3) := by decide +kernel
theorem dX11_row_30 : decode cX11_row 30 = .ok (.getfield 406, 3) := by decide +kernel
theorem dX11_row_33 : decode cX11_row 33 = .ok (.iload_n 1, 1) := by decide +kernel
theorem dX11_row_34 : decode cX11_row 34 = .ok (.laload, 1) := by decide +kernel
theorem dX11_row_35 : decode cX11_row 35 = .ok (.lreturn, 1) := by decide +kernel
def fX11_row (x1 : Int32) (M : zM) : Option Int64 := zj (fun (_ : Unit) =>
  if False then (
  none) else none)
  fun J1 =>
  if x1 < 0 then (
  J1 ())
  else (
  if x1 < (M.1 3 1) then (
  if zin x1 16 then (
  some (M.2.1 4 x1.toNatClampNeg)) else none)
  else (
  J1 ()))
set_option maxHeartbeats 4000000 in
theorem cX11_row_ok {E : zE} {d : Nat} (hd : 0 ≤ d) (x1 : Int32) (M : zM) {K : Int64 → Prop} (h : wpO (fX11_row x1 M) K) : CMl E d yX11_row cX11_row 2 (some .long) [.ref 0, .int x1] M (fun r N => M = N ∧ K r) := by
  refine CMl.of (by decide) (Nat.le_of_ble_eq_true rfl) (fun Γ hC hr => ?_)
  have hC : Cx E Γ RX11 cX11_row 2 d := hC
  show G E Γ 2 0 [(0, .ref 0), (1, .int x1)] [] M
  unfold fX11_row at h
  refine g_iload_n (i := 1) (x := x1) hC (dX11_row_0) rfl rfl ?_
  refine wpO_j h (fun J1 hkJ1 h => ?_)
  have hJ1 : ∀ (_ : Unit), wpO (J1 ()) K → G E Γ 2 15 [] [] M := by
    intro _ h
    have h := hkJ1 _ h
    obtain ⟨qF, h⟩ := wpO_g h
    exact qF.elim
  refine g_if_lt (tgt := 15) hC (dX11_row_1) (by decide) (fun c1 => ?_) (fun c1 => ?_)
  · have h := wpO_t c1 h
    refine g_sub (lv' := []) [] rfl ?_
    exact hJ1 () h
  · have h := wpO_f c1 h
    refine g_iload_n (i := 1) (x := x1) hC (dX11_row_4) rfl rfl ?_
    refine g_aload_n (i := 0) (x := 0) hC (dX11_row_5) rfl rfl ?_
    refine g_getR (r := 3) hC flX11_19 (dX11_row_6) rfl rfl rfl ?_
    refine g_getI hC flX11_400 (dX11_row_9) rfl rfl ?_
    refine g_icmp_lt (tgt := 26) hC (dX11_row_12) (by decide) (fun c12 => ?_) (fun c12 => ?_)
    · have h := wpO_t c12 h
      refine g_aload_n (i := 0) (x := 0) hC (dX11_row_26) rfl rfl ?_
      refine g_getR (r := 3) hC flX11_19 (dX11_row_27) rfl rfl rfl ?_
      refine g_getR (r := 4) hC flX11_406 (dX11_row_30) rfl rfl rfl ?_
      refine g_iload_n (i := 1) (x := x1) hC (dX11_row_33) rfl rfl ?_
      obtain ⟨q2, h⟩ := wpO_g h
      refine g_laload (n := 16) hC (dX11_row_34) rfl q2 ?_
      refine g_lreturn hC hr (dX11_row_35) ?_
      exact ⟨rfl, wpO_s h⟩
    · have h := wpO_f c12 h
      refine g_sub (lv' := []) [] rfl ?_
      exact hJ1 () h
