/-! LostByState.perform(LLostByState$Whereabouts;III)I -/
theorem dX11_perform_0 : decode cX11_perform 0 = .ok (.iload_n 2, 1) := by decide +kernel
theorem dX11_perform_1 : decode cX11_perform 1 = .ok (.tableswitch 191 99 108 #[111, 167, 191, 83, 139, 191, 191, 191, 191, 55], 55) := by decide +kernel
theorem dX11_perform_56 : decode cX11_perform 56 = .ok (.aload_n 0, 1) := by decide +kernel
theorem dX11_perform_57 : decode cX11_perform 57 = .ok (.iload_n 3, 1) := by decide +kernel
theorem dX11_perform_58 : decode cX11_perform 58 = .ok (.invokevirtual 166, 3) := by decide +kernel
theorem dX11_perform_61 : decode cX11_perform 61 = .ok (.ifCond .eq 21, 3) := by decide +kernel
theorem dX11_perform_64 : decode cX11_perform 64 = .ok (.iload 4, 2) := by decide +kernel
theorem dX11_perform_66 : decode cX11_perform 66 = .ok (.invokestatic 366, 3) := by decide +kernel
theorem dX11_perform_69 : decode cX11_perform 69 = .ok (.ifCond .eq 13, 3) := by decide +kernel
theorem dX11_perform_72 : decode cX11_perform 72 = .ok (.aload_n 1, 1) := by decide +kernel
theorem dX11_perform_73 : decode cX11_perform 73 = .ok (.iload_n 3, 1) := by decide +kernel
theorem dX11_perform_74 : decode cX11_perform 74 = .ok (.iload 4, 2) := by decide +kernel
theorem dX11_perform_76 : decode cX11_perform 76 = .ok (.invokevirtual 419, 3) := by decide +kernel
theorem dX11_perform_79 : decode cX11_perform 79 = .ok (.goto 4, 3) := by decide +kernel
theorem dX11_perform_82 : decode cX11_perform 82 = .ok (.iconst (-1), 1) := by decide +kernel
theorem dX11_perform_83 : decode cX11_perform 83 = .ok (.ireturn, 1) := by decide +kernel
theorem dX11_perform_84 : decode cX11_perform 84 = .ok (.iload_n 3, 1) := by decide +kernel
theorem dX11_perform_85 : decode cX11_perform 85 = .ok (.invokestatic 422, 3) := by decide +kernel
theorem dX11_perform_88 : decode cX11_perform 88 = .ok (.ifCond .eq 22, 3) := by decide +kernel
theorem dX11_perform_91 : decode cX11_perform 91 = .ok (.aload_n 0, 1) := by decide +kernel
theorem dX11_perform_92 : decode cX11_perform 92 = .ok (.iload 4, 2) := by decide +kernel
theorem dX11_perform_94 : decode cX11_perform 94 = .ok (.invokevirtual 166, 3) := by decide +kernel
theorem dX11_perform_97 : decode cX11_perform 97 = .ok (.ifCond .eq 13, 3) := by decide +kernel
theorem dX11_perform_100 : decode cX11_perform 100 = .ok (.aload_n 1, 1) := by decide +kernel
theorem dX11_perform_101 : decode cX11_perform 101 = .ok (.iload 4, 2) := by decide +kernel
theorem dX11_perform_103 : decode cX11_perform 103 = .ok (.iload_n 3, 1) := by decide +kernel
theorem dX11_perform_104 : decode cX11_perform 104 = .ok (.invokevirtual 425, 3) := by decide +kernel
theorem dX11_perform_107 : decode cX11_perform 107 = .ok (.goto 4, 3) := by decide +kernel
theorem dX11_perform_110 : decode cX11_perform 110 = .ok (.iconst (-1), 1) := by decide +kernel
theorem dX11_perform_111 : decode cX11_perform 111 = .ok (.ireturn, 1) := by decide +kernel
theorem dX11_perform_112 : decode cX11_perform 112 = .ok (.iload_n 3, 1) := by decide +kernel
theorem dX11_perform_113 : decode cX11_perform 113 = .ok (.invokestatic 428, 3) := by decide +kernel
theorem dX11_perform_116 : decode cX11_perform 116 = .ok (.ifCond .eq 22, 3) := by decide +kernel
theorem dX11_perform_119 : decode cX11_perform 119 = .ok (.iload 4, 2) := by decide +kernel
theorem dX11_perform_121 : decode cX11_perform 121 = .ok (.invokestatic 269, 3) := by decide +kernel
theorem dX11_perform_124 : decode cX11_perform 124 = .ok (.ifCond .eq 14, 3) := by decide +kernel
theorem dX11_perform_127 : decode cX11_perform 127 = .ok (.aload_n 0, 1) := by decide +kernel
theorem dX11_perform_128 : decode cX11_perform 128 = .ok (.aload_n 1, 1) := by decide +kernel
theorem dX11_perform_129 : decode cX11_perform 129 = .ok (.iload_n 3, 1) := by decide +kernel
theorem dX11_perform_130 : decode cX11_perform 130 = .ok (.iload 4, 2) := by decide +kernel
theorem dX11_perform_132 : decode cX11_perform 132 = .ok (.invokevirtual 431, 3) := by decide +kernel
theorem dX11_perform_135 : decode cX11_perform 135 = .ok (.goto 4, 3) := by decide +kernel
theorem dX11_perform_138 : decode cX11_perform 138 = .ok (.iconst (-1), 1) := by decide +kernel
theorem dX11_perform_139 : decode cX11_perform 139 = .ok (.ireturn, 1) := by decide +kernel
theorem dX11_perform_140 : decode cX11_perform 140 = .ok (.aload_n 0, 1) := by decide +kernel
theorem dX11_perform_141 : decode cX11_perform 141 = .ok (.iload_n 3, 1) := by decide +kernel
theorem dX11_perform_142 : decode cX11_perform 142 = .ok (.invokevirtual 166, 3) := by decide +kernel
theorem dX11_perform_145 : decode cX11_perform 145 = .ok (.ifCond .eq 21, 3) := by decide +kernel
theorem dX11_perform_148 : decode cX11_perform 148 = .ok (.iload 4, 2) := by decide +kernel
theorem dX11_perform_150 : decode cX11_perform 150 = .ok (.invokestatic 428, 3) := by decide +kernel
theorem dX11_perform_153 : decode cX11_perform 153 = .ok (.ifCond .eq 13, 3) := by decide +kernel
theorem dX11_perform_156 : decode cX11_perform 156 = .ok (.aload_n 1, 1) := by decide +kernel
theorem dX11_perform_157 : decode cX11_perform 157 = .ok (.iload_n 3, 1) := by decide +kernel
theorem dX11_perform_158 : decode cX11_perform 158 = .ok (.iload 4, 2) := by decide +kernel
theorem dX11_perform_160 : decode cX11_perform 160 = .ok (.invokevirtual 435, 3) := by decide +kernel
theorem dX11_perform_163 : decode cX11_perform 163 = .ok (.goto 4, 3) := by decide +kernel
theorem dX11_perform_166 : decode cX11_perform 166 = .ok (.iconst (-1), 1) := by decide +kernel
theorem dX11_perform_167 : decode cX11_perform 167 = .ok (.ireturn, 1) := by decide +kernel
theorem dX11_perform_168 : decode cX11_perform 168 = .ok (.iload_n 3, 1) := by decide +kernel
theorem dX11_perform_169 : decode cX11_perform 169 = .ok (.invokestatic 217, 3) := by decide +kernel
theorem dX11_perform_172 : decode cX11_perform 172 = .ok (.ifCond .eq 18, 3) := by decide +kernel
theorem dX11_perform_175 : decode cX11_perform 175 = .ok (.aload_n 1, 1) := by decide +kernel
theorem dX11_perform_176 : decode cX11_perform 176 = .ok (.iload_n 3, 1) := by decide +kernel
theorem dX11_perform_177 : decode cX11_perform 177 = .ok (.aload_n 0, 1) := by decide +kernel
theorem dX11_perform_178 : decode cX11_perform 178 = .ok (.getfield 110, 3) := by decide +kernel
theorem dX11_perform_181 : decode cX11_perform 181 = .ok (.invokevirtual 224, 3) := by decide +kernel
theorem dX11_perform_184 : decode cX11_perform 184 = .ok (.invokestatic 240, 3) := by decide +kernel
theorem dX11_perform_187 : decode cX11_perform 187 = .ok (.goto 4, 3) := by decide +kernel
theorem dX11_perform_190 : decode cX11_perform 190 = .ok (.iconst (-1), 1) := by decide +kernel
theorem dX11_perform_191 : decode cX11_perform 191 = .ok (.ireturn, 1) := by decide +kernel
theorem dX11_perform_192 : decode cX11_perform 192 = .ok (.iconst (-1), 1) := by decide +kernel
theorem dX11_perform_193 : decode cX11_perform 193 = .ok (.ireturn, 1) := by decide +kernel
def fX11_perform (x1 : Nat) (x2 : Int32) (x3 : Int32) (x4 : Int32) (M : zM) : Option (Int32 × zM) := if x2 = 99 then (
  if (fX11_isSomebody x3) = 0 then (
  some ((-1), M))
  else (
  if (fX11_isDescription x4) = 0 then (
  some ((-1), M))
  else (
  (fX11_handOut x1 x3 x4 M).bind fun (q : Int32 × zM) => zp q fun r3 M132 =>
  some (r3, M132))))
  else (
  if x2 = 100 then (
  if (fX11_isSpan x3) = 0 then (
  some ((-1), M))
  else (
  if zSH x1 = .inl 10 then (
  (fX10_passDays x1 x3 (M.1 0 17) M).bind fun (q : Int32 × zM) => zp q fun r6 M181 =>
  some (fJ6_bitCount_0f7a4 r6, M181)) else none))
  else (
  if x2 = 101 then (
  some ((-1), M))
  else (
  if x2 = 102 then (
  if (fX11_isPerson x3) = 0 then (
  some ((-1), M))
  else (
  if (fX11_isThing x4 M) = 0 then (
  some ((-1), M))
  else (
  if zSH x1 = .inl 10 then (
  (fX10_bringIn x1 x4 x3 M).bind fun (q : Int32 × zM) => zp q fun r11 M104 =>
  some (r11, M104)) else none)))
  else (
  if x2 = 103 then (
  if (fX11_isThing x3 M) = 0 then (
  some ((-1), M))
  else (
  if (fX11_isSomebody x4) = 0 then (
  some ((-1), M))
  else (
  if zSH x1 = .inl 10 then (
  (fX10_hand x1 x3 x4 M).bind fun (q : Int32 × zM) => zp q fun r15 M160 =>
  some (r15, M160)) else none)))
  else (
  if x2 = 104 then (
  some ((-1), M))
  else (
  if x2 = 105 then (
  some ((-1), M))
  else (
  if x2 = 106 then (
  some ((-1), M))
  else (
  if x2 = 107 then (
  some ((-1), M))
  else (
  if x2 = 108 then (
  if (fX11_isThing x3 M) = 0 then (
  some ((-1), M))
  else (
  if (fX11_isPlace x4) = 0 then (
  some ((-1), M))
  else (
  if zSH x1 = .inl 10 then (
  (fX10_lose x1 x3 x4 M).bind fun (q : Int32 × zM) => zp q fun r19 M76 =>
  some (r19, M76)) else none)))
  else (
  some ((-1), M)))))))))))
set_option maxHeartbeats 4000000 in
theorem cX11_perform_ok {E : zE} {d : Nat} (hd : 5 ≤ d) (x1 : Nat) (x2 : Int32) (x3 : Int32) (x4 : Int32) (M : zM) {K : (Int32 × zM) → Prop} (h : wpO (fX11_perform x1 x2 x3 x4 M) K) : CMi E d yX11_perform cX11_perform 5 (some .int) [.ref 0, .ref x1, .int x2, .int x3, .int x4] M (fun r N => K (r, N)) := by
  refine CMi.of (by decide) (Nat.le_of_ble_eq_true rfl) (fun Γ hC hr => ?_)
  have hC : Cx E Γ RX11 cX11_perform 5 d := hC
  show G E Γ 5 0 [(0, .ref 0), (1, .ref x1), (2, .int x2), (3, .int x3), (4, .int x4)] [] M
  unfold fX11_perform at h
  refine g_iload_n (i := 2) (x := x2) hC (dX11_perform_0) rfl rfl ?_
  rcases Decidable.em (x2 = 99) with c1_99 | c1_99
  · have h := wpO_t c1_99 h
    refine g_tswIn (tgt := 112) (off := 111) hC (dX11_perform_1) 99 c1_99 (by decide +kernel) (by decide +kernel) (by decide +kernel) (by decide +kernel) ?_
    refine g_iload_n (i := 3) (x := x3) hC (dX11_perform_112) rfl rfl ?_
    refine g_callSi ([.int x3]) hC wsX11_428 (dX11_perform_113) rfl (by omega) (Nat.le_of_ble_eq_true rfl) (cX11_isSomebody_ok (by omega) x3 M (K := fun r => r = fX11_isSomebody x3) rfl) (fun r N q => ?_)
    obtain ⟨rfl, rfl⟩ := q
    refine g_if_eq (tgt := 138) hC (dX11_perform_116) (by decide) (fun c116 => ?_) (fun c116 => ?_)
    · have h := wpO_t c116 h
      refine g_iconst (v := (-1)) hC (dX11_perform_138) kc_m1 ?_
      refine g_ireturn hC hr (dX11_perform_139) ?_
      exact wpO_s h
    · have h := wpO_f c116 h
      refine g_iload (i := 4) (x := x4) hC (dX11_perform_119) rfl ?_
      refine g_callSi ([.int x4]) hC wsX11_269 (dX11_perform_121) rfl (by omega) (Nat.le_of_ble_eq_true rfl) (cX11_isDescription_ok (by omega) x4 M (K := fun r => r = fX11_isDescription x4) rfl) (fun r N q => ?_)
      obtain ⟨rfl, rfl⟩ := q
      refine g_if_eq (tgt := 138) hC (dX11_perform_124) (by decide) (fun c124 => ?_) (fun c124 => ?_)
      · have h := wpO_t c124 h
        refine g_iconst (v := (-1)) hC (dX11_perform_138) kc_m1 ?_
        refine g_ireturn hC hr (dX11_perform_139) ?_
        exact wpO_s h
      · have h := wpO_f c124 h
        refine g_aload_n (i := 0) (x := 0) hC (dX11_perform_127) rfl rfl ?_
        refine g_aload_n (i := 1) (x := x1) hC (dX11_perform_128) rfl rfl ?_
        refine g_iload_n (i := 3) (x := x3) hC (dX11_perform_129) rfl rfl ?_
        refine g_iload (i := 4) (x := x4) hC (dX11_perform_130) rfl ?_
        have h := wpO_b h
        refine g_callVi ([.ref x1, .int x3, .int x4]) hC wvX11_431 (dX11_perform_132) rfl rfl (by omega) (Nat.le_of_ble_eq_true rfl) (cX11_handOut_ok (by omega) x1 x3 x4 M h) (fun r3 M132 h => ?_)
        have h := wpO_p h
        refine g_goto (tgt := 139) hC (dX11_perform_135) (by decide) ?_
        refine g_ireturn hC hr (dX11_perform_139) ?_
        exact wpO_s h
  · have h := wpO_f c1_99 h
    rcases Decidable.em (x2 = 100) with c1_100 | c1_100
    · have h := wpO_t c1_100 h
      refine g_tswIn (tgt := 168) (off := 167) hC (dX11_perform_1) 100 c1_100 (by decide +kernel) (by decide +kernel) (by decide +kernel) (by decide +kernel) ?_
      refine g_iload_n (i := 3) (x := x3) hC (dX11_perform_168) rfl rfl ?_
      refine g_callSi ([.int x3]) hC wsX11_217 (dX11_perform_169) rfl (by omega) (Nat.le_of_ble_eq_true rfl) (cX11_isSpan_ok (by omega) x3 M (K := fun r => r = fX11_isSpan x3) rfl) (fun r N q => ?_)
      obtain ⟨rfl, rfl⟩ := q
      refine g_if_eq (tgt := 190) hC (dX11_perform_172) (by decide) (fun c172 => ?_) (fun c172 => ?_)
      · have h := wpO_t c172 h
        refine g_iconst (v := (-1)) hC (dX11_perform_190) kc_m1 ?_
        refine g_ireturn hC hr (dX11_perform_191) ?_
        exact wpO_s h
      · have h := wpO_f c172 h
        refine g_aload_n (i := 1) (x := x1) hC (dX11_perform_175) rfl rfl ?_
        refine g_iload_n (i := 3) (x := x3) hC (dX11_perform_176) rfl rfl ?_
        refine g_aload_n (i := 0) (x := 0) hC (dX11_perform_177) rfl rfl ?_
        refine g_getI hC flX11_110 (dX11_perform_178) rfl rfl ?_
        obtain ⟨q5, h⟩ := wpO_g h
        have h := wpO_b h
        refine g_callVi ([.int x3, .int (M.1 0 17)]) hC wvX11_224 (dX11_perform_181) q5 rfl (by omega) (Nat.le_of_ble_eq_true rfl) (cX10_passDays_ok (by omega) x1 x3 (M.1 0 17) M h) (fun r6 M181 h => ?_)
        have h := wpO_p h
        refine g_callSi ([.int r6]) hC wsX11_240 (dX11_perform_184) rfl (by omega) (Nat.le_of_ble_eq_true rfl) (cJ6_bitCount_0f7a4_ok (by omega) r6 M181 (K := fun r => r = fJ6_bitCount_0f7a4 r6) rfl) (fun r N q => ?_)
        obtain ⟨rfl, rfl⟩ := q
        refine g_goto (tgt := 191) hC (dX11_perform_187) (by decide) ?_
        refine g_ireturn hC hr (dX11_perform_191) ?_
        exact wpO_s h
    · have h := wpO_f c1_100 h
      rcases Decidable.em (x2 = 101) with c1_101 | c1_101
      · have h := wpO_t c1_101 h
        refine g_tswIn (tgt := 192) (off := 191) hC (dX11_perform_1) 101 c1_101 (by decide +kernel) (by decide +kernel) (by decide +kernel) (by decide +kernel) ?_
        refine g_iconst (v := (-1)) hC (dX11_perform_192) kc_m1 ?_
        refine g_ireturn hC hr (dX11_perform_193) ?_
        exact wpO_s h
      · have h := wpO_f c1_101 h
        rcases Decidable.em (x2 = 102) with c1_102 | c1_102
        · have h := wpO_t c1_102 h
          refine g_tswIn (tgt := 84) (off := 83) hC (dX11_perform_1) 102 c1_102 (by decide +kernel) (by decide +kernel) (by decide +kernel) (by decide +kernel) ?_
          refine g_iload_n (i := 3) (x := x3) hC (dX11_perform_84) rfl rfl ?_
          refine g_callSi ([.int x3]) hC wsX11_422 (dX11_perform_85) rfl (by omega) (Nat.le_of_ble_eq_true rfl) (cX11_isPerson_ok (by omega) x3 M (K := fun r => r = fX11_isPerson x3) rfl) (fun r N q => ?_)
          obtain ⟨rfl, rfl⟩ := q
          refine g_if_eq (tgt := 110) hC (dX11_perform_88) (by decide) (fun c88 => ?_) (fun c88 => ?_)
          · have h := wpO_t c88 h
            refine g_iconst (v := (-1)) hC (dX11_perform_110) kc_m1 ?_
            refine g_ireturn hC hr (dX11_perform_111) ?_
            exact wpO_s h
          · have h := wpO_f c88 h
            refine g_aload_n (i := 0) (x := 0) hC (dX11_perform_91) rfl rfl ?_
            refine g_iload (i := 4) (x := x4) hC (dX11_perform_92) rfl ?_
            refine g_callVi ([.int x4]) hC wvX11_166 (dX11_perform_94) rfl rfl (by omega) (Nat.le_of_ble_eq_true rfl) (cX11_isThing_ok (by omega) x4 M (K := fun r => r = fX11_isThing x4 M) rfl) (fun r N q => ?_)
            obtain ⟨rfl, rfl⟩ := q
            refine g_if_eq (tgt := 110) hC (dX11_perform_97) (by decide) (fun c97 => ?_) (fun c97 => ?_)
            · have h := wpO_t c97 h
              refine g_iconst (v := (-1)) hC (dX11_perform_110) kc_m1 ?_
              refine g_ireturn hC hr (dX11_perform_111) ?_
              exact wpO_s h
            · have h := wpO_f c97 h
              refine g_aload_n (i := 1) (x := x1) hC (dX11_perform_100) rfl rfl ?_
              refine g_iload (i := 4) (x := x4) hC (dX11_perform_101) rfl ?_
              refine g_iload_n (i := 3) (x := x3) hC (dX11_perform_103) rfl rfl ?_
              obtain ⟨q10, h⟩ := wpO_g h
              have h := wpO_b h
              refine g_callVi ([.int x4, .int x3]) hC wvX11_425 (dX11_perform_104) q10 rfl (by omega) (Nat.le_of_ble_eq_true rfl) (cX10_bringIn_ok (by omega) x1 x4 x3 M h) (fun r11 M104 h => ?_)
              have h := wpO_p h
              refine g_goto (tgt := 111) hC (dX11_perform_107) (by decide) ?_
              refine g_ireturn hC hr (dX11_perform_111) ?_
              exact wpO_s h
        · have h := wpO_f c1_102 h
          rcases Decidable.em (x2 = 103) with c1_103 | c1_103
          · have h := wpO_t c1_103 h
            refine g_tswIn (tgt := 140) (off := 139) hC (dX11_perform_1) 103 c1_103 (by decide +kernel) (by decide +kernel) (by decide +kernel) (by decide +kernel) ?_
            refine g_aload_n (i := 0) (x := 0) hC (dX11_perform_140) rfl rfl ?_
            refine g_iload_n (i := 3) (x := x3) hC (dX11_perform_141) rfl rfl ?_
            refine g_callVi ([.int x3]) hC wvX11_166 (dX11_perform_142) rfl rfl (by omega) (Nat.le_of_ble_eq_true rfl) (cX11_isThing_ok (by omega) x3 M (K := fun r => r = fX11_isThing x3 M) rfl) (fun r N q => ?_)
            obtain ⟨rfl, rfl⟩ := q
            refine g_if_eq (tgt := 166) hC (dX11_perform_145) (by decide) (fun c145 => ?_) (fun c145 => ?_)
            · have h := wpO_t c145 h
              refine g_iconst (v := (-1)) hC (dX11_perform_166) kc_m1 ?_
              refine g_ireturn hC hr (dX11_perform_167) ?_
              exact wpO_s h
            · have h := wpO_f c145 h
              refine g_iload (i := 4) (x := x4) hC (dX11_perform_148) rfl ?_
              refine g_callSi ([.int x4]) hC wsX11_428 (dX11_perform_150) rfl (by omega) (Nat.le_of_ble_eq_true rfl) (cX11_isSomebody_ok (by omega) x4 M (K := fun r => r = fX11_isSomebody x4) rfl) (fun r N q => ?_)
              obtain ⟨rfl, rfl⟩ := q
              refine g_if_eq (tgt := 166) hC (dX11_perform_153) (by decide) (fun c153 => ?_) (fun c153 => ?_)
              · have h := wpO_t c153 h
                refine g_iconst (v := (-1)) hC (dX11_perform_166) kc_m1 ?_
                refine g_ireturn hC hr (dX11_perform_167) ?_
                exact wpO_s h
              · have h := wpO_f c153 h
                refine g_aload_n (i := 1) (x := x1) hC (dX11_perform_156) rfl rfl ?_
                refine g_iload_n (i := 3) (x := x3) hC (dX11_perform_157) rfl rfl ?_
                refine g_iload (i := 4) (x := x4) hC (dX11_perform_158) rfl ?_
                obtain ⟨q14, h⟩ := wpO_g h
                have h := wpO_b h
                refine g_callVi ([.int x3, .int x4]) hC wvX11_435 (dX11_perform_160) q14 rfl (by omega) (Nat.le_of_ble_eq_true rfl) (cX10_hand_ok (by omega) x1 x3 x4 M h) (fun r15 M160 h => ?_)
                have h := wpO_p h
                refine g_goto (tgt := 167) hC (dX11_perform_163) (by decide) ?_
                refine g_ireturn hC hr (dX11_perform_167) ?_
                exact wpO_s h
          · have h := wpO_f c1_103 h
            rcases Decidable.em (x2 = 104) with c1_104 | c1_104
            · have h := wpO_t c1_104 h
              refine g_tswIn (tgt := 192) (off := 191) hC (dX11_perform_1) 104 c1_104 (by decide +kernel) (by decide +kernel) (by decide +kernel) (by decide +kernel) ?_
              refine g_iconst (v := (-1)) hC (dX11_perform_192) kc_m1 ?_
              refine g_ireturn hC hr (dX11_perform_193) ?_
              exact wpO_s h
            · have h := wpO_f c1_104 h
              rcases Decidable.em (x2 = 105) with c1_105 | c1_105
              · have h := wpO_t c1_105 h
                refine g_tswIn (tgt := 192) (off := 191) hC (dX11_perform_1) 105 c1_105 (by decide +kernel) (by decide +kernel) (by decide +kernel) (by decide +kernel) ?_
                refine g_iconst (v := (-1)) hC (dX11_perform_192) kc_m1 ?_
                refine g_ireturn hC hr (dX11_perform_193) ?_
                exact wpO_s h
              · have h := wpO_f c1_105 h
                rcases Decidable.em (x2 = 106) with c1_106 | c1_106
                · have h := wpO_t c1_106 h
                  refine g_tswIn (tgt := 192) (off := 191) hC (dX11_perform_1) 106 c1_106 (by decide +kernel) (by decide +kernel) (by decide +kernel) (by decide +kernel) ?_
                  refine g_iconst (v := (-1)) hC (dX11_perform_192) kc_m1 ?_
                  refine g_ireturn hC hr (dX11_perform_193) ?_
                  exact wpO_s h
                · have h := wpO_f c1_106 h
                  rcases Decidable.em (x2 = 107) with c1_107 | c1_107
                  · have h := wpO_t c1_107 h
                    refine g_tswIn (tgt := 192) (off := 191) hC (dX11_perform_1) 107 c1_107 (by decide +kernel) (by decide +kernel) (by decide +kernel) (by decide +kernel) ?_
                    refine g_iconst (v := (-1)) hC (dX11_perform_192) kc_m1 ?_
                    refine g_ireturn hC hr (dX11_perform_193) ?_
                    exact wpO_s h
                  · have h := wpO_f c1_107 h
                    rcases Decidable.em (x2 = 108) with c1_108 | c1_108
                    · have h := wpO_t c1_108 h
                      refine g_tswIn (tgt := 56) (off := 55) hC (dX11_perform_1) 108 c1_108 (by decide +kernel) (by decide +kernel) (by decide +kernel) (by decide +kernel) ?_
                      refine g_aload_n (i := 0) (x := 0) hC (dX11_perform_56) rfl rfl ?_
                      refine g_iload_n (i := 3) (x := x3) hC (dX11_perform_57) rfl rfl ?_
                      refine g_callVi ([.int x3]) hC wvX11_166 (dX11_perform_58) rfl rfl (by omega) (Nat.le_of_ble_eq_true rfl) (cX11_isThing_ok (by omega) x3 M (K := fun r => r = fX11_isThing x3 M) rfl) (fun r N q => ?_)
                      obtain ⟨rfl, rfl⟩ := q
                      refine g_if_eq (tgt := 82) hC (dX11_perform_61) (by decide) (fun c61 => ?_) (fun c61 => ?_)
                      · have h := wpO_t c61 h
                        refine g_iconst (v := (-1)) hC (dX11_perform_82) kc_m1 ?_
                        refine g_ireturn hC hr (dX11_perform_83) ?_
                        exact wpO_s h
                      · have h := wpO_f c61 h
                        refine g_iload (i := 4) (x := x4) hC (dX11_perform_64) rfl ?_
                        refine g_callSi ([.int x4]) hC wsX11_366 (dX11_perform_66) rfl (by omega) (Nat.le_of_ble_eq_true rfl) (cX11_isPlace_ok (by omega) x4 M (K := fun r => r = fX11_isPlace x4) rfl) (fun r N q => ?_)
                        obtain ⟨rfl, rfl⟩ := q
                        refine g_if_eq (tgt := 82) hC (dX11_perform_69) (by decide) (fun c69 => ?_) (fun c69 => ?_)
                        · have h := wpO_t c69 h
                          refine g_iconst (v := (-1)) hC (dX11_perform_82) kc_m1 ?_
                          refine g_ireturn hC hr (dX11_perform_83) ?_
                          exact wpO_s h
                        · have h := wpO_f c69 h
                          refine g_aload_n (i := 1) (x := x1) hC (dX11_perform_72) rfl rfl ?_
                          refine g_iload_n (i := 3) (x := x3) hC (dX11_perform_73) rfl rfl ?_
                          refine g_iload (i := 4) (x := x4) hC (dX11_perform_74) rfl ?_
                          obtain ⟨q18, h⟩ := wpO_g h
                          have h := wpO_b h
                          refine g_callVi ([.int x3, .int x4]) hC wvX11_419 (dX11_perform_76) q18 rfl (by omega) (Nat.le_of_ble_eq_true rfl) (cX10_lose_ok (by omega) x1 x3 x4 M h) (fun r19 M76 h => ?_)
                          have h := wpO_p h
                          refine g_goto (tgt := 83) hC (dX11_perform_79) (by decide) ?_
                          refine g_ireturn hC hr (dX11_perform_83) ?_
                          exact wpO_s h
                    · have h := wpO_f c1_108 h
                      have zc1_99 : ¬ (x2).toInt = 99 := fun z => c1_99 (Int32.toInt_inj.mp (z.trans (by decide +kernel)))
                      have zc1_100 : ¬ (x2).toInt = 100 := fun z => c1_100 (Int32.toInt_inj.mp (z.trans (by decide +kernel)))
                      have zc1_101 : ¬ (x2).toInt = 101 := fun z => c1_101 (Int32.toInt_inj.mp (z.trans (by decide +kernel)))
                      have zc1_102 : ¬ (x2).toInt = 102 := fun z => c1_102 (Int32.toInt_inj.mp (z.trans (by decide +kernel)))
                      have zc1_103 : ¬ (x2).toInt = 103 := fun z => c1_103 (Int32.toInt_inj.mp (z.trans (by decide +kernel)))
                      have zc1_104 : ¬ (x2).toInt = 104 := fun z => c1_104 (Int32.toInt_inj.mp (z.trans (by decide +kernel)))
                      have zc1_105 : ¬ (x2).toInt = 105 := fun z => c1_105 (Int32.toInt_inj.mp (z.trans (by decide +kernel)))
                      have zc1_106 : ¬ (x2).toInt = 106 := fun z => c1_106 (Int32.toInt_inj.mp (z.trans (by decide +kernel)))
                      have zc1_107 : ¬ (x2).toInt = 107 := fun z => c1_107 (Int32.toInt_inj.mp (z.trans (by decide +kernel)))
                      have zc1_108 : ¬ (x2).toInt = 108 := fun z => c1_108 (Int32.toInt_inj.mp (z.trans (by decide +kernel)))
                      refine g_tswOut (tgt := 192) hC (dX11_perform_1) (by omega) (by decide +kernel) ?_
                      refine g_iconst (v := (-1)) hC (dX11_perform_192) kc_m1 ?_
                      refine g_ireturn hC hr (dX11_perform_193) ?_
                      exact wpO_s h
/-! LostByState.act(III)I -/
theorem dX11_act_0 : decode cX11_act 0 = .ok (.aload_n 0, 1) := by decide +kernel
theorem dX11_act_1 : decode cX11_act 1 = .ok (.getfield 43, 3) := by decide +kernel
theorem dX11_act_4 : decode cX11_act 4 = .ok (.aload_n 0, 1) := by decide +kernel
theorem dX11_act_5 : decode cX11_act 5 = .ok (.getfield 33, 3) := by decide +kernel
theorem dX11_act_8 : decode cX11_act 8 = .ok (.invokevirtual 220, 3) := by decide +kernel
theorem dX11_act_11 : decode cX11_act 11 = .ok (.aload_n 0, 1) := by decide +kernel
theorem dX11_act_12 : decode cX11_act 12 = .ok (.aload_n 0, 1) := by decide +kernel
theorem dX11_act_13 : decode cX11_act 13 = .ok (.getfield 33, 3) := by decide +kernel
theorem dX11_act_16 : decode cX11_act 16 = .ok (.iload_n 1, 1) := by decide +kernel
theorem dX11_act_17 : decode cX11_act 17 = .ok (.iload_n 2, 1) := by decide +kernel
theorem dX11_act_18 : decode cX11_act 18 = .ok (.iload_n 3, 1) := by decide +kernel
theorem dX11_act_19 : decode cX11_act 19 = .ok (.invokevirtual 260, 3) := by decide +kernel
theorem dX11_act_22 : decode cX11_act 22 = .ok (.istore 4, 2) := by decide +kernel
theorem dX11_act_24 : decode cX11_act 24 = .ok (.iload 4, 2) := by decide +kernel
theorem dX11_act_26 : decode cX11_act 26 = .ok (.ifCond .lt 10, 3) := by decide +kernel
theorem dX11_act_29 : decode cX11_act 29 = .ok (.aload_n 0, 1) := by decide +kernel
theorem dX11_act_30 : decode cX11_act 30 = .ok (.getfield 43, 3) := by decide +kernel
theorem dX11_act_33 : decode cX11_act 33 = .ok (.invokevirtual 227, 3) := by decide +kernel
theorem dX11_act_36 : decode cX11_act 36 = .ok (.iload 4, 2) := by decide +kernel
theorem dX11_act_38 : decode cX11_act 38 = .ok (.ireturn, 1) := by decide +kernel
def fX11_act (x1 : Int32) (x2 : Int32) (x3 : Int32) (M : zM) : Option (Int32 × zM) := (fX2_note 60 M).bind fun (M8 : zM) =>
  (fX11_perform 60 x1 x2 x3 M8).bind fun (q : Int32 × zM) => zp q fun r2 M19 =>
  zlet (if r2 < 0 then (
  M19)
  else (
  zlet (fX2_keepNoted M19) fun (M33 : zM) =>
  M33)) fun (M_36 : zM) =>
  some (r2, M_36)
set_option maxHeartbeats 4000000 in
theorem cX11_act_ok {E : zE} {d : Nat} (hd : 6 ≤ d) (x1 : Int32) (x2 : Int32) (x3 : Int32) (M : zM) {K : (Int32 × zM) → Prop} (h : wpO (fX11_act x1 x2 x3 M) K) : CMi E d yX11_act cX11_act 5 (some .int) [.ref 0, .int x1, .int x2, .int x3] M (fun r N => K (r, N)) := by
  refine CMi.of (by decide) (Nat.le_of_ble_eq_true rfl) (fun Γ hC hr => ?_)
  have hC : Cx E Γ RX11 cX11_act 5 d := hC
  show G E Γ 5 0 [(0, .ref 0), (1, .int x1), (2, .int x2), (3, .int x3)] [] M
  unfold fX11_act at h
  refine g_aload_n (i := 0) (x := 0) hC (dX11_act_0) rfl rfl ?_
  refine g_getR (r := 9) hC flX11_43 (dX11_act_1) rfl rfl rfl ?_
  refine g_aload_n (i := 0) (x := 0) hC (dX11_act_4) rfl rfl ?_
  refine g_getR (r := 60) hC flX11_33 (dX11_act_5) rfl rfl rfl ?_
  have h := wpO_b h
  refine g_callVv ([.ref 60]) hC wvX11_220 (dX11_act_8) rfl rfl (by omega) (Nat.le_of_ble_eq_true rfl) (cX2_note_ok (by omega) 60 M h) (fun M8 h => ?_)
  refine g_aload_n (i := 0) (x := 0) hC (dX11_act_11) rfl rfl ?_
  refine g_aload_n (i := 0) (x := 0) hC (dX11_act_12) rfl rfl ?_
  refine g_getR (r := 60) hC flX11_33 (dX11_act_13) rfl rfl rfl ?_
  refine g_iload_n (i := 1) (x := x1) hC (dX11_act_16) rfl rfl ?_
  refine g_iload_n (i := 2) (x := x2) hC (dX11_act_17) rfl rfl ?_
  refine g_iload_n (i := 3) (x := x3) hC (dX11_act_18) rfl rfl ?_
  have h := wpO_b h
  refine g_callVi ([.ref 60, .int x1, .int x2, .int x3]) hC wvX11_260 (dX11_act_19) rfl rfl (by omega) (Nat.le_of_ble_eq_true rfl) (cX11_perform_ok (by omega) 60 x1 x2 x3 M8 h) (fun r2 M19 h => ?_)
  have h := wpO_p h
  refine g_istore (i := 4) (lv2 := [(4, .int r2), (0, .ref 0), (1, .int x1), (2, .int x2), (3, .int x3)]) hC (dX11_act_22) (by decide) rfl ?_
  refine g_iload (i := 4) (x := r2) hC (dX11_act_24) rfl ?_
  obtain ⟨M_36, e_M_36, h⟩ := wpO_l h
  have hJ3 : G E Γ 5 36 [(4, .int r2)] [] M_36 := by
    refine g_iload (i := 4) (x := r2) hC (dX11_act_36) rfl ?_
    refine g_ireturn hC hr (dX11_act_38) ?_
    exact wpO_s h
  refine g_if_lt (tgt := 36) hC (dX11_act_26) (by decide) (fun c26 => ?_) (fun c26 => ?_)
  · rw [if_pos c26] at e_M_36
    refine g_sub (lv' := [(4, .int r2)]) [0] rfl ?_
    subst e_M_36
    exact hJ3
  · rw [if_neg c26] at e_M_36
    refine g_aload_n (i := 0) (x := 0) hC (dX11_act_29) rfl rfl ?_
    refine g_getR (r := 9) hC flX11_43 (dX11_act_30) rfl rfl rfl ?_
    refine g_callVv ([]) hC wvX11_227 (dX11_act_33) rfl rfl (by omega) (Nat.le_of_ble_eq_true rfl) (cX2_keepNoted_ok (by omega) M19 (K := fun r => r = fX2_keepNoted M19) rfl) (fun N q => ?_)
    subst q
    refine g_nmM (fun M33 e_M33 => ?_)
    have e_M_36 := zle e_M33 e_M_36
    refine g_sub (lv' := [(4, .int r2)]) [0] rfl ?_
    subst e_M_36
    exact hJ3
/-! LostByState.loses(II)I -/
theorem dX11_loses_0 : decode cX11_loses 0 = .ok (.aload_n 0, 1) := by decide +kernel
theorem dX11_loses_1 : decode cX11_loses 1 = .ok (.bipush 108, 2) := by decide +kernel
theorem dX11_loses_3 : decode cX11_loses 3 = .ok (.iload_n 1, 1) := by decide +kernel
theorem dX11_loses_4 : decode cX11_loses 4 = .ok (.iload_n 2, 1) := by decide +kernel
theorem dX11_loses_5 : decode cX11_loses 5 = .ok (.invokevirtual 213, 3) := by decide +kernel
theorem dX11_loses_8 : decode cX11_loses 8 = .ok (.ireturn, 1) := by decide +kernel
def fX11_loses (x1 : Int32) (x2 : Int32) (M : zM) : Option (Int32 × zM) := (fX11_act 108 x1 x2 M).bind fun (q : Int32 × zM) => zp q fun r1 M5 =>
  some (r1, M5)
set_option maxHeartbeats 4000000 in
theorem cX11_loses_ok {E : zE} {d : Nat} (hd : 7 ≤ d) (x1 : Int32) (x2 : Int32) (M : zM) {K : (Int32 × zM) → Prop} (h : wpO (fX11_loses x1 x2 M) K) : CMi E d yX11_loses cX11_loses 3 (some .int) [.ref 0, .int x1, .int x2] M (fun r N => K (r, N)) := by
  refine CMi.of (by decide) (Nat.le_of_ble_eq_true rfl) (fun Γ hC hr => ?_)
  have hC : Cx E Γ RX11 cX11_loses 3 d := hC
  show G E Γ 3 0 [(0, .ref 0), (1, .int x1), (2, .int x2)] [] M
  unfold fX11_loses at h
  refine g_aload_n (i := 0) (x := 0) hC (dX11_loses_0) rfl rfl ?_
  refine g_bipush (v := 108) hC (dX11_loses_1) kb_108 ?_
  refine g_iload_n (i := 1) (x := x1) hC (dX11_loses_3) rfl rfl ?_
  refine g_iload_n (i := 2) (x := x2) hC (dX11_loses_4) rfl rfl ?_
  have h := wpO_b h
  refine g_callVi ([.int 108, .int x1, .int x2]) hC wvX11_213 (dX11_loses_5) rfl rfl (by omega) (Nat.le_of_ble_eq_true rfl) (cX11_act_ok (by omega) 108 x1 x2 M h) (fun r1 M5 h => ?_)
  have h := wpO_p h
  refine g_ireturn hC hr (dX11_loses_8) ?_
  exact wpO_s h
/-! LostByState.finds(II)I -/
theorem dX11_finds_0 : decode cX11_finds 0 = .ok (.aload_n 0, 1) := by decide +kernel
theorem dX11_finds_1 : decode cX11_finds 1 = .ok (.bipush 102, 2) := by decide +kernel
theorem dX11_finds_3 : decode cX11_finds 3 = .ok (.iload_n 1, 1) := by decide +kernel
theorem dX11_finds_4 : decode cX11_finds 4 = .ok (.iload_n 2, 1) := by decide +kernel
theorem dX11_finds_5 : decode cX11_finds 5 = .ok (.invokevirtual 213, 3) := by decide +kernel
theorem dX11_finds_8 : decode cX11_finds 8 = .ok (.ireturn, 1) := by decide +kernel
def fX11_finds (x1 : Int32) (x2 : Int32) (M : zM) : Option (Int32 × zM) := (fX11_act 102 x1 x2 M).bind fun (q : Int32 × zM) => zp q fun r1 M5 =>
  some (r1, M5)
set_option maxHeartbeats 4000000 in
theorem cX11_finds_ok {E : zE} {d : Nat} (hd : 7 ≤ d) (x1 : Int32) (x2 : Int32) (M : zM) {K : (Int32 × zM) → Prop} (h : wpO (fX11_finds x1 x2 M) K) : CMi E d yX11_finds cX11_finds 3 (some .int) [.ref 0, .int x1, .int x2] M (fun r N => K (r, N)) := by
  refine CMi.of (by decide) (Nat.le_of_ble_eq_true rfl) (fun Γ hC hr => ?_)
  have hC : Cx E Γ RX11 cX11_finds 3 d := hC
  show G E Γ 3 0 [(0, .ref 0), (1, .int x1), (2, .int x2)] [] M
  unfold fX11_finds at h
  refine g_aload_n (i := 0) (x := 0) hC (dX11_finds_0) rfl rfl ?_
  refine g_bipush (v := 102) hC (dX11_finds_1) kb_102 ?_
  refine g_iload_n (i := 1) (x := x1) hC (dX11_finds_3) rfl rfl ?_
  refine g_iload_n (i := 2) (x := x2) hC (dX11_finds_4) rfl rfl ?_
  have h := wpO_b h
  refine g_callVi ([.int 102, .int x1, .int x2]) hC wvX11_213 (dX11_finds_5) rfl rfl (by omega) (Nat.le_of_ble_eq_true rfl) (cX11_act_ok (by omega) 102 x1 x2 M h) (fun r1 M5 h => ?_)
  have h := wpO_p h
  refine g_ireturn hC hr (dX11_finds_8) ?_
  exact wpO_s h
/-! LostByState.claim(II)I -/
theorem dX11_claim_0 : decode cX11_claim 0 = .ok (.aload_n 0, 1) := by decide +kernel
theorem dX11_claim_1 : decode cX11_claim 1 = .ok (.bipush 99, 2) := by decide +kernel
theorem dX11_claim_3 : decode cX11_claim 3 = .ok (.iload_n 1, 1) := by decide +kernel
theorem dX11_claim_4 : decode cX11_claim 4 = .ok (.iload_n 2, 1) := by decide +kernel
theorem dX11_claim_5 : decode cX11_claim 5 = .ok (.invokevirtual 213, 3) := by decide +kernel
theorem dX11_claim_8 : decode cX11_claim 8 = .ok (.ireturn, 1) := by decide +kernel
def fX11_claim (x1 : Int32) (x2 : Int32) (M : zM) : Option (Int32 × zM) := (fX11_act 99 x1 x2 M).bind fun (q : Int32 × zM) => zp q fun r1 M5 =>
  some (r1, M5)
set_option maxHeartbeats 4000000 in
theorem cX11_claim_ok {E : zE} {d : Nat} (hd : 7 ≤ d) (x1 : Int32) (x2 : Int32) (M : zM) {K : (Int32 × zM) → Prop} (h : wpO (fX11_claim x1 x2 M) K) : CMi E d yX11_claim cX11_claim 3 (some .int) [.ref 0, .int x1, .int x2] M (fun r N => K (r, N)) := by
  refine CMi.of (by decide) (Nat.le_of_ble_eq_true rfl) (fun Γ hC hr => ?_)
  have hC : Cx E Γ RX11 cX11_claim 3 d := hC
  show G E Γ 3 0 [(0, .ref 0), (1, .int x1), (2, .int x2)] [] M
  unfold fX11_claim at h
  refine g_aload_n (i := 0) (x := 0) hC (dX11_claim_0) rfl rfl ?_
  refine g_bipush (v := 99) hC (dX11_claim_1) kb_99 ?_
  refine g_iload_n (i := 1) (x := x1) hC (dX11_claim_3) rfl rfl ?_
  refine g_iload_n (i := 2) (x := x2) hC (dX11_claim_4) rfl rfl ?_
  have h := wpO_b h
  refine g_callVi ([.int 99, .int x1, .int x2]) hC wvX11_213 (dX11_claim_5) rfl rfl (by omega) (Nat.le_of_ble_eq_true rfl) (cX11_act_ok (by omega) 99 x1 x2 M h) (fun r1 M5 h => ?_)
  have h := wpO_p h
  refine g_ireturn hC hr (dX11_claim_8) ?_
  exact wpO_s h
/-! LostByState.gives(II)I -/
theorem dX11_gives_0 : decode cX11_gives 0 = .ok (.aload_n 0, 1) := by decide +kernel
theorem dX11_gives_1 : decode cX11_gives 1 = .ok (.bipush 103, 2) := by decide +kernel
theorem dX11_gives_3 : decode cX11_gives 3 = .ok (.iload_n 1, 1) := by decide +kernel
theorem dX11_gives_4 : decode cX11_gives 4 = .ok (.iload_n 2, 1) := by decide +kernel
theorem dX11_gives_5 : decode cX11_gives 5 = .ok (.invokevirtual 213, 3) := by decide +kernel
theorem dX11_gives_8 : decode cX11_gives 8 = .ok (.ireturn, 1) := by decide +kernel
def fX11_gives (x1 : Int32) (x2 : Int32) (M : zM) : Option (Int32 × zM) := (fX11_act 103 x1 x2 M).bind fun (q : Int32 × zM) => zp q fun r1 M5 =>
  some (r1, M5)
set_option maxHeartbeats 4000000 in
theorem cX11_gives_ok {E : zE} {d : Nat} (hd : 7 ≤ d) (x1 : Int32) (x2 : Int32) (M : zM) {K : (Int32 × zM) → Prop} (h : wpO (fX11_gives x1 x2 M) K) : CMi E d yX11_gives cX11_gives 3 (some .int) [.ref 0, .int x1, .int x2] M (fun r N => K (r, N)) := by
  refine CMi.of (by decide) (Nat.le_of_ble_eq_true rfl) (fun Γ hC hr => ?_)
  have hC : Cx E Γ RX11 cX11_gives 3 d := hC
  show G E Γ 3 0 [(0, .ref 0), (1, .int x1), (2, .int x2)] [] M
  unfold fX11_gives at h
  refine g_aload_n (i := 0) (x := 0) hC (dX11_gives_0) rfl rfl ?_
  refine g_bipush (v := 103) hC (dX11_gives_1) kb_103 ?_
  refine g_iload_n (i := 1) (x := x1) hC (dX11_gives_3) rfl rfl ?_
  refine g_iload_n (i := 2) (x := x2) hC (dX11_gives_4) rfl rfl ?_
  have h := wpO_b h
  refine g_callVi ([.int 103, .int x1, .int x2]) hC wvX11_213 (dX11_gives_5) rfl rfl (by omega) (Nat.le_of_ble_eq_true rfl) (cX11_act_ok (by omega) 103 x1 x2 M h) (fun r1 M5 h => ?_)
  have h := wpO_p h
  refine g_ireturn hC hr (dX11_gives_8) ?_
  exact wpO_s h
/-! LostByState.days(I)I -/
theorem dX11_days_0 : decode cX11_days 0 = .ok (.iload_n 1, 1) := by decide +kernel
theorem dX11_days_1 : decode cX11_days 1 = .ok (.invokestatic 217, 3) := by decide +kernel
theorem dX11_days_4 : decode cX11_days 4 = .ok (.ifCond .ne 5, 3) := by decide +kernel
theorem dX11_days_7 : decode cX11_days 7 = .ok (.iconst (-1), 1) := by decide +kernel
theorem dX11_days_8 : decode cX11_days 8 = .ok (.ireturn, 1) := by decide +kernel
theorem dX11_days_9 : decode cX11_days 9 = .ok (.aload_n 0, 1) := by decide +kernel
theorem dX11_days_10 : decode cX11_days 10 = .ok (.getfield 43, 3) := by decide +kernel
theorem dX11_days_13 : decode cX11_days 13 = .ok (.aload_n 0, 1) := by decide +kernel
theorem dX11_days_14 : decode cX11_days 14 = .ok (.getfield 33, 3) := by decide +kernel
theorem dX11_days_17 : decode cX11_days 17 = .ok (.invokevirtual 220, 3) := by decide +kernel
theorem dX11_days_20 : decode cX11_days 20 = .ok (.aload_n 0, 1) := by decide +kernel
theorem dX11_days_21 : decode cX11_days 21 = .ok (.getfield 33, 3) := by decide +kernel
theorem dX11_days_24 : decode cX11_days 24 = .ok (.iload_n 1, 1) := by decide +kernel
theorem dX11_days_25 : decode cX11_days 25 = .ok (.aload_n 0, 1) := by decide +kernel
theorem dX11_days_26 : decode cX11_days 26 = .ok (.getfield 110, 3) := by decide +kernel
theorem dX11_days_29 : decode cX11_days 29 = .ok (.invokevirtual 224, 3) := by decide +kernel
theorem dX11_days_32 : decode cX11_days 32 = .ok (.istore_n 2, 1) := by decide +kernel
theorem dX11_days_33 : decode cX11_days 33 = .ok (.iload_n 1, 1) := by decide +kernel
theorem dX11_days_34 : decode cX11_days 34 = .ok (.ifCond .le 10, 3) := by decide +kernel
theorem dX11_days_37 : decode cX11_days 37 = .ok (.aload_n 0, 1) := by decide +kernel
theorem dX11_days_38 : decode cX11_days 38 = .ok (.getfield 43, 3) := by decide +kernel
theorem dX11_days_41 : decode cX11_days 41 = .ok (.invokevirtual 227, 3) := by decide +kernel
theorem dX11_days_44 : decode cX11_days 44 = .ok (.aload_n 0, 1) := by decide +kernel
theorem dX11_days_45 : decode cX11_days 45 = .ok (.getfield 19, 3) := by decide +kernel
theorem dX11_days_48 : decode cX11_days 48 = .ok (.invokevirtual 230, 3) := by decide +kernel
theorem dX11_days_51 : decode cX11_days 51 = .ok (.aload_n 0, 1) := by decide +kernel
theorem dX11_days_52 : decode cX11_days 52 = .ok (.getfield 19, 3) := by decide +kernel
theorem dX11_days_55 : decode cX11_days 55 = .ok (.iload_n 2, 1) := by decide +kernel
theorem dX11_days_56 : decode cX11_days 56 = .ok (.i2l, 1) := by decide +kernel
theorem dX11_days_57 : decode cX11_days 57 = .ok (.invokevirtual 233, 3) := by decide +kernel
theorem dX11_days_60 : decode cX11_days 60 = .ok (.aload_n 0, 1) := by decide +kernel
theorem dX11_days_61 : decode cX11_days 61 = .ok (.getfield 19, 3) := by decide +kernel
theorem dX11_days_64 : decode cX11_days 64 = .ok (.aload_n 0, 1) := by decide +kernel
theorem dX11_days_65 : decode cX11_days 65 = .ok (.getfield 26, 3) := by decide +kernel
theorem dX11_days_68 : decode cX11_days 68 = .ok (.aload_n 0, 1) := by decide +kernel
theorem dX11_days_69 : decode cX11_days 69 = .ok (.getfield 33, 3) := by decide +kernel
theorem dX11_days_72 : decode cX11_days 72 = .ok (.bipush 6, 2) := by decide +kernel
theorem dX11_days_74 : decode cX11_days 74 = .ok (.invokevirtual 204, 3) := by decide +kernel
theorem dX11_days_77 : decode cX11_days 77 = .ok (.invokevirtual 237, 3) := by decide +kernel
theorem dX11_days_80 : decode cX11_days 80 = .ok (.i2l, 1) := by decide +kernel
theorem dX11_days_81 : decode cX11_days 81 = .ok (.invokevirtual 233, 3) := by decide +kernel
theorem dX11_days_84 : decode cX11_days 84 = .ok (.iload_n 2, 1) := by decide +kernel
theorem dX11_days_85 : decode cX11_days 85 = .ok (.invokestatic 240, 3) := by decide +kernel
theorem dX11_days_88 : decode cX11_days 88 = .ok (.ireturn, 1) := by decide +kernel
def fX11_days (x1 : Int32) (M : zM) : Option (Int32 × zM) := if (fX11_isSpan x1) = 0 then (
  some ((-1), M))
  else (
  (fX2_note 60 M).bind fun (M17 : zM) =>
  (fX10_passDays 60 x1 (M17.1 0 17) M17).bind fun (q : Int32 × zM) => zp q fun r3 M29 =>
  zlet (if x1 ≤ 0 then (
  M29)
  else (
  zlet (fX2_keepNoted M29) fun (M41 : zM) =>
  M41)) fun (M_44 : zM) =>
  zlet (fX3_begin M_44) fun (M48 : zM) =>
  (fX3_tell r3.toInt64 M48).bind fun (M57 : zM) =>
  (fX10_heldBy 60 6 M57).bind fun (r8 : Int32) =>
  (fX7_doableWith r8 M57).bind fun (r9 : Int32) =>
  (fX3_tell r9.toInt64 M57).bind fun (M81 : zM) =>
  some (fJ6_bitCount_0f7a4 r3, M81))
set_option maxHeartbeats 4000000 in
theorem cX11_days_ok {E : zE} {d : Nat} (hd : 3 ≤ d) (x1 : Int32) (M : zM) {K : (Int32 × zM) → Prop} (h : wpO (fX11_days x1 M) K) : CMi E d yX11_days cX11_days 3 (some .int) [.ref 0, .int x1] M (fun r N => K (r, N)) := by
  refine CMi.of (by decide) (Nat.le_of_ble_eq_true rfl) (fun Γ hC hr => ?_)
  have hC : Cx E Γ RX11 cX11_days 3 d := hC
  show G E Γ 3 0 [(0, .ref 0), (1, .int x1)] [] M
  unfold fX11_days at h
  refine g_iload_n (i := 1) (x := x1) hC (dX11_days_0) rfl rfl ?_
  refine g_callSi ([.int x1]) hC wsX11_217 (dX11_days_1) rfl (by omega) (Nat.le_of_ble_eq_true rfl) (cX11_isSpan_ok (by omega) x1 M (K := fun r => r = fX11_isSpan x1) rfl) (fun r N q => ?_)
  obtain ⟨rfl, rfl⟩ := q
  refine g_if_ne (tgt := 9) hC (dX11_days_4) (by decide) (fun c4 => ?_) (fun c4 => ?_)
  · have h := wpO_f c4 h
    refine g_aload_n (i := 0) (x := 0) hC (dX11_days_9) rfl rfl ?_
    refine g_getR (r := 9) hC flX11_43 (dX11_days_10) rfl rfl rfl ?_
    refine g_aload_n (i := 0) (x := 0) hC (dX11_days_13) rfl rfl ?_
    refine g_getR (r := 60) hC flX11_33 (dX11_days_14) rfl rfl rfl ?_
    have h := wpO_b h
    refine g_callVv ([.ref 60]) hC wvX11_220 (dX11_days_17) rfl rfl (by omega) (Nat.le_of_ble_eq_true rfl) (cX2_note_ok (by omega) 60 M h) (fun M17 h => ?_)
    refine g_aload_n (i := 0) (x := 0) hC (dX11_days_20) rfl rfl ?_
    refine g_getR (r := 60) hC flX11_33 (dX11_days_21) rfl rfl rfl ?_
    refine g_iload_n (i := 1) (x := x1) hC (dX11_days_24) rfl rfl ?_
    refine g_aload_n (i := 0) (x := 0) hC (dX11_days_25) rfl rfl ?_
    refine g_getI hC flX11_110 (dX11_days_26) rfl rfl ?_
    have h := wpO_b h
    refine g_callVi ([.int x1, .int (M17.1 0 17)]) hC wvX11_224 (dX11_days_29) rfl rfl (by omega) (Nat.le_of_ble_eq_true rfl) (cX10_passDays_ok (by omega) 60 x1 (M17.1 0 17) M17 h) (fun r3 M29 h => ?_)
    have h := wpO_p h
    refine g_istore_n (i := 2) (lv2 := [(2, .int r3), (0, .ref 0), (1, .int x1)]) hC (dX11_days_32) rfl (by decide) rfl ?_
    refine g_iload_n (i := 1) (x := x1) hC (dX11_days_33) rfl rfl ?_
    obtain ⟨M_44, e_M_44, h⟩ := wpO_l h
    have hJ4 : G E Γ 3 44 [(0, .ref 0), (2, .int r3)] [] M_44 := by
      refine g_aload_n (i := 0) (x := 0) hC (dX11_days_44) rfl rfl ?_
      refine g_getR (r := 3) hC flX11_19 (dX11_days_45) rfl rfl rfl ?_
      refine g_callVv ([]) hC wvX11_230 (dX11_days_48) rfl rfl (by omega) (Nat.le_of_ble_eq_true rfl) (cX3_begin_ok (by omega) M_44 (K := fun r => r = fX3_begin M_44) rfl) (fun N q => ?_)
      subst q
      refine g_nmM (fun M48 e_M48 => ?_)
      have h := wpO_n e_M48 h
      refine g_aload_n (i := 0) (x := 0) hC (dX11_days_51) rfl rfl ?_
      refine g_getR (r := 3) hC flX11_19 (dX11_days_52) rfl rfl rfl ?_
      refine g_iload_n (i := 2) (x := r3) hC (dX11_days_55) rfl rfl ?_
      refine g_i2l hC (dX11_days_56) ?_
      have h := wpO_b h
      refine g_callVv ([.long r3.toInt64]) hC wvX11_233 (dX11_days_57) rfl rfl (by omega) (Nat.le_of_ble_eq_true rfl) (cX3_tell_ok (by omega) r3.toInt64 M48 h) (fun M57 h => ?_)
      refine g_aload_n (i := 0) (x := 0) hC (dX11_days_60) rfl rfl ?_
      refine g_getR (r := 3) hC flX11_19 (dX11_days_61) rfl rfl rfl ?_
      refine g_aload_n (i := 0) (x := 0) hC (dX11_days_64) rfl rfl ?_
      refine g_getR (r := 5) hC flX11_26 (dX11_days_65) rfl rfl rfl ?_
      refine g_aload_n (i := 0) (x := 0) hC (dX11_days_68) rfl rfl ?_
      refine g_getR (r := 60) hC flX11_33 (dX11_days_69) rfl rfl rfl ?_
      refine g_bipush (v := 6) hC (dX11_days_72) kb_6 ?_
      have h := wpO_b h
      refine g_callVi ([.int 6]) hC wvX11_204 (dX11_days_74) rfl rfl (by omega) (Nat.le_of_ble_eq_true rfl) (cX10_heldBy_ok (by omega) 60 6 M57 h) (fun r8 N q => ?_)
      obtain ⟨rfl, h⟩ := q
      have h := wpO_b h
      refine g_callVi ([.int r8]) hC wvX11_237 (dX11_days_77) rfl rfl (by omega) (Nat.le_of_ble_eq_true rfl) (cX7_doableWith_ok (by omega) r8 M57 h) (fun r9 N q => ?_)
      obtain ⟨rfl, h⟩ := q
      refine g_i2l hC (dX11_days_80) ?_
      have h := wpO_b h
      refine g_callVv ([.long r9.toInt64]) hC wvX11_233 (dX11_days_81) rfl rfl (by omega) (Nat.le_of_ble_eq_true rfl) (cX3_tell_ok (by omega) r9.toInt64 M57 h) (fun M81 h => ?_)
      refine g_iload_n (i := 2) (x := r3) hC (dX11_days_84) rfl rfl ?_
      refine g_callSi ([.int r3]) hC wsX11_240 (dX11_days_85) rfl (by omega) (Nat.le_of_ble_eq_true rfl) (cJ6_bitCount_0f7a4_ok (by omega) r3 M81 (K := fun r => r = fJ6_bitCount_0f7a4 r3) rfl) (fun r N q => ?_)
      obtain ⟨rfl, rfl⟩ := q
      refine g_ireturn hC hr (dX11_days_88) ?_
      exact wpO_s h
    refine g_if_le (tgt := 44) hC (dX11_days_34) (by decide) (fun c34 => ?_) (fun c34 => ?_)
    · rw [if_pos c34] at e_M_44
      refine g_sub (lv' := [(0, .ref 0), (2, .int r3)]) [1, 0] rfl ?_
      subst e_M_44
      exact hJ4
    · rw [if_neg c34] at e_M_44
      refine g_aload_n (i := 0) (x := 0) hC (dX11_days_37) rfl rfl ?_
      refine g_getR (r := 9) hC flX11_43 (dX11_days_38) rfl rfl rfl ?_
      refine g_callVv ([]) hC wvX11_227 (dX11_days_41) rfl rfl (by omega) (Nat.le_of_ble_eq_true rfl) (cX2_keepNoted_ok (by omega) M29 (K := fun r => r = fX2_keepNoted M29) rfl) (fun N q => ?_)
      subst q
      refine g_nmM (fun M41 e_M41 => ?_)
      have e_M_44 := zle e_M41 e_M_44
      refine g_sub (lv' := [(0, .ref 0), (2, .int r3)]) [1, 0] rfl ?_
      subst e_M_44
      exact hJ4
  · have h := wpO_t c4 h
    refine g_iconst (v := (-1)) hC (dX11_days_7) kc_m1 ?_
    refine g_ireturn hC hr (dX11_days_8) ?_
    exact wpO_s h
/-! LostByState.year()I -/
theorem dX11_year_0 : decode cX11_year 0 = .ok (.aload_n 0, 1) := by decide +kernel
theorem dX11_year_1 : decode cX11_year 1 = .ok (.getfield 77, 3) := by decide +kernel
theorem dX11_year_4 : decode cX11_year 4 = .ok (.aload_n 0, 1) := by decide +kernel
theorem dX11_year_5 : decode cX11_year 5 = .ok (.getfield 10, 3) := by decide +kernel
theorem dX11_year_8 : decode cX11_year 8 = .ok (.invokevirtual 245, 3) := by decide +kernel
theorem dX11_year_11 : decode cX11_year 11 = .ok (.istore_n 1, 1) := by decide +kernel
theorem dX11_year_12 : decode cX11_year 12 = .ok (.aload_n 0, 1) := by decide +kernel
theorem dX11_year_13 : decode cX11_year 13 = .ok (.getfield 10, 3) := by decide +kernel
theorem dX11_year_16 : decode cX11_year 16 = .ok (.invokevirtual 132, 3) := by decide +kernel
theorem dX11_year_19 : decode cX11_year 19 = .ok (.iload_n 1, 1) := by decide +kernel
theorem dX11_year_20 : decode cX11_year 20 = .ok (.ifCond .lt 7, 3) := by decide +kernel
theorem dX11_year_23 : decode cX11_year 23 = .ok (.iconst (-1), 1) := by decide +kernel
theorem dX11_year_24 : decode cX11_year 24 = .ok (.iload_n 1, 1) := by decide +kernel
theorem dX11_year_25 : decode cX11_year 25 = .ok (.isub, 1) := by decide +kernel
theorem dX11_year_26 : decode cX11_year 26 = .ok (.ireturn, 1) := by decide +kernel
theorem dX11_year_27 : decode cX11_year 27 = .ok (.aload_n 0, 1) := by decide +kernel
theorem dX11_year_28 : decode cX11_year 28 = .ok (.getfield 43, 3) := by decide +kernel
theorem dX11_year_31 : decode cX11_year 31 = .ok (.aload_n 0, 1) := by decide +kernel
theorem dX11_year_32 : decode cX11_year 32 = .ok (.getfield 33, 3) := by decide +kernel
theorem dX11_year_35 : decode cX11_year 35 = .ok (.invokevirtual 220, 3) := by decide +kernel
theorem dX11_year_38 : decode cX11_year 38 = .ok (.iconst 0, 1) := by decide +kernel
theorem dX11_year_39 : decode cX11_year 39 = .ok (.istore_n 2, 1) := by decide +kernel
theorem dX11_year_40 : decode cX11_year 40 = .ok (.iconst 0, 1) := by decide +kernel
theorem dX11_year_41 : decode cX11_year 41 = .ok (.istore_n 3, 1) := by decide +kernel
theorem dX11_year_42 : decode cX11_year 42 = .ok (.iload_n 3, 1) := by decide +kernel
theorem dX11_year_43 : decode cX11_year 43 = .ok (.aload_n 0, 1) := by decide +kernel
theorem dX11_year_44 : decode cX11_year 44 = .ok (.getfield 77, 3) := by decide +kernel
theorem dX11_year_47 : decode cX11_year 47 = .ok (.getfield 248, 3) := by decide +kernel
theorem dX11_year_50 : decode cX11_year 50 = .ok (.if_icmp .ge 55, 3) := by decide +kernel
theorem dX11_year_53 : decode cX11_year 53 = .ok (.iload_n 2, 1) := by decide +kernel
theorem dX11_year_54 : decode cX11_year 54 = .ok (.iload_n 3, 1) := by decide +kernel
theorem dX11_year_55 : decode cX11_year 55 = .ok (.if_icmp .ne 50, 3) := by decide +kernel
theorem dX11_year_58 : decode cX11_year 58 = .ok (.aload_n 0, 1) := by decide +kernel
theorem dX11_year_59 : decode cX11_year 59 = .ok (.aload_n 0, 1) := by decide +kernel
theorem dX11_year_60 : decode cX11_year 60 = .ok (.getfield 33, 3) := by decide +kernel
theorem dX11_year_63 : decode cX11_year 63 = .ok (.aload_n 0, 1) := by decide +kernel
theorem dX11_year_64 : decode cX11_year 64 = .ok (.getfield 77, 3) := by decide +kernel
theorem dX11_year_67 : decode cX11_year 67 = .ok (.getfield 251, 3) := by decide +kernel
theorem dX11_year_70 : decode cX11_year 70 = .ok (.iload_n 3, 1) := by decide +kernel
theorem dX11_year_71 : decode cX11_year 71 = .ok (.iaload, 1) := by decide +kernel
theorem dX11_year_72 : decode cX11_year 72 = .ok (.aload_n 0, 1) := by decide +kernel
theorem dX11_year_73 : decode cX11_year 73 = .ok (.getfield 77, 3) := by decide +kernel
theorem dX11_year_76 : decode cX11_year 76 = .ok (.getfield 254, 3) := by decide +kernel
theorem dX11_year_79 : decode cX11_year 79 = .ok (.iload_n 3, 1) := by decide +kernel
theorem dX11_year_80 : decode cX11_year 80 = .ok (.iaload, 1) := by decide +kernel
theorem dX11_year_81 : decode cX11_year 81 = .ok (.aload_n 0, 1) := by decide +kernel
theorem dX11_year_82 : decode cX11_year 82 = .ok (.getfield 77, 3) := by decide +kernel
theorem dX11_year_85 : decode cX11_year 85 = .ok (.getfield 257, 3) := by decide +kernel
theorem dX11_year_88 : decode cX11_year 88 = .ok (.iload_n 3, 1) := by decide +kernel
theorem dX11_year_89 : decode cX11_year 89 = .ok (.iaload, 1) := by decide +kernel
theorem dX11_year_90 : decode cX11_year 90 = .ok (.invokevirtual 260, 3) := by decide +kernel
theorem dX11_year_93 : decode cX11_year 93 = .ok (.ifCond .lt 6, 3) := by decide +kernel
theorem dX11_year_96 : decode cX11_year 96 = .ok (.iinc 2 1, 3) := by decide +kernel
theorem dX11_year_99 : decode cX11_year 99 = .ok (.iinc 3 1, 3) := by decide +kernel
theorem dX11_year_102 : decode cX11_year 102 = .ok (.goto (-60), 3) := by decide +kernel
theorem dX11_year_105 : decode cX11_year 105 = .ok (.iload_n 2, 1) := by decide +kernel
theorem dX11_year_106 : decode cX11_year 106 = .ok (.ifCond .le 10, 3) := by decide +kernel
theorem dX11_year_109 : decode cX11_year 109 = .ok (.aload_n 0, 1) := by decide +kernel
theorem dX11_year_110 : decode cX11_year 110 = .ok (.getfield 43, 3) := by decide +kernel
theorem dX11_year_113 : decode cX11_year 113 = .ok (.invokevirtual 227, 3) := by decide +kernel
theorem dX11_year_116 : decode cX11_year 116 = .ok (.aload_n 0, 1) := by decide +kernel
theorem dX11_year_117 : decode cX11_year 117 = .ok (.getfield 19, 3) := by decide +kernel
theorem dX11_year_120 : decode cX11_year 120 = .ok (.invokevirtual 230, 3) := by decide +kernel
theorem dX11_year_123 : decode cX11_year 123 = .ok (.aload_n 0, 1) := by decide +kernel
theorem dX11_year_124 : decode cX11_year 124 = .ok (.getfield 19, 3) := by decide +kernel
theorem dX11_year_127 : decode cX11_year 127 = .ok (.iload_n 2, 1) := by decide +kernel
theorem dX11_year_128 : decode cX11_year 128 = .ok (.aload_n 0, 1) := by decide +kernel
theorem dX11_year_129 : decode cX11_year 129 = .ok (.getfield 77, 3) := by decide +kernel
theorem dX11_year_132 : decode cX11_year 132 = .ok (.getfield 248, 3) := by decide +kernel
theorem dX11_year_135 : decode cX11_year 135 = .ok (.if_icmp .ge 7, 3) := by decide +kernel
theorem dX11_year_138 : decode cX11_year 138 = .ok (.lconst 1, 1) := by decide +kernel
theorem dX11_year_139 : decode cX11_year 139 = .ok (.goto 4, 3) := by decide +kernel
theorem dX11_year_142 : decode cX11_year 142 = .ok (.lconst 0, 1) := by decide +kernel
theorem dX11_year_143 : decode cX11_year 143 = .ok (.invokevirtual 233, 3) := by decide +kernel
theorem dX11_year_146 : decode cX11_year 146 = .ok (.aload_n 0, 1) := by decide +kernel
theorem dX11_year_147 : decode cX11_year 147 = .ok (.getfield 19, 3) := by decide +kernel
theorem dX11_year_150 : decode cX11_year 150 = .ok (.aload_n 0, 1) := by decide +kernel
theorem dX11_year_151 : decode cX11_year 151 = .ok (.getfield 26, 3) := by decide +kernel
theorem dX11_year_154 : decode cX11_year 154 = .ok (.aload_n 0, 1) := by decide +kernel
theorem dX11_year_155 : decode cX11_year 155 = .ok (.getfield 33, 3) := by decide +kernel
theorem dX11_year_158 : decode cX11_year 158 = .ok (.bipush 6, 2) := by decide +kernel
theorem dX11_year_160 : decode cX11_year 160 = .ok (.invokevirtual 204, 3) := by decide +kernel
theorem dX11_year_163 : decode cX11_year 163 = .ok (.invokevirtual 237, 3) := by decide +kernel
theorem dX11_year_166 : decode cX11_year 166 = .ok (.i2l, 1) := by decide +kernel
theorem dX11_year_167 : decode cX11_year 167 = .ok (.invokevirtual 233, 3) := by decide +kernel
theorem dX11_year_170 : decode cX11_year 170 = .ok (.iload_n 2, 1) := by decide +kernel
theorem dX11_year_171 : decode cX11_year 171 = .ok (.ireturn, 1) := by decide +kernel
def fX11_year_L42 : Nat → Int32 → Int32 → zM → Option (Int32 × zM)
  | 0, _, _, _ => none
  | n + 1, x2, x3, M => if (M.1 22 3) ≤ x3 then (
    some (x2, M))
    else (
    if x2 = x3 then (
    if zin x3 30 then (
    (fX11_perform 60 (M.1 23 x3.toNatClampNeg) (M.1 24 x3.toNatClampNeg) (M.1 25 x3.toNatClampNeg) M).bind fun (q : Int32 × zM) => zp q fun r5 M90 =>
    zlet (if r5 < 0 then (
    x2)
    else (
    (x2 + 1))) fun (x2_99 : Int32) =>
    fX11_year_L42 n x2_99 (x3 + 1) M90) else none)
    else (
    some (x2, M)))
def fX11_year  (M : zM) : Option (Int32 × zM) := (fX0_readFrom M).bind fun (q : Int32 × zM) => zp q fun r1 M8 =>
  zlet (fX9_clear M8) fun (M16 : zM) =>
  if r1 < 0 then (
  (fX2_note 60 M16).bind fun (M35 : zM) =>
  (fX11_year_L42 4000 0 0 M35).bind fun (q : Int32 × zM) => zp q fun x2_105 M_105 =>
  zlet (if x2_105 ≤ 0 then (
  M_105)
  else (
  zlet (fX2_keepNoted M_105) fun (M113 : zM) =>
  M113)) fun (M_116 : zM) =>
  zlet (fX3_begin M_116) fun (M120 : zM) =>
  zlet (if (M120.1 22 3) ≤ x2_105 then (
  0)
  else (
  1)) fun (s0_143 : Int64) =>
  (fX3_tell s0_143 M120).bind fun (M143 : zM) =>
  (fX10_heldBy 60 6 M143).bind fun (r12 : Int32) =>
  (fX7_doableWith r12 M143).bind fun (r13 : Int32) =>
  (fX3_tell r13.toInt64 M143).bind fun (M167 : zM) =>
  some (x2_105, M167))
  else (
  some ((-1) - r1, M16))
set_option maxHeartbeats 4000000 in
theorem lX11_year_42 {E : zE} {Γ : zT} {d : Nat} {K1 : (Int32 × zM) → Prop} (hC : Cx E Γ RX11 cX11_year 4 d) (hd : 6 ≤ d) (hx : ∀ (x2_105 : Int32) (M_105 : zM), K1 (x2_105, M_105) → G E Γ 4 105 [(0, .ref 0), (2, .int x2_105)] [] M_105) :
    ∀ (n : Nat) (x2 : Int32) (x3 : Int32) (M : zM), wpO (fX11_year_L42 n x2 x3 M) K1 → G E Γ 4 42 [(0, .ref 0), (2, .int x2), (3, .int x3)] [] M := by
  intro n
  induction n with
  | zero =>
    intro x2 x3 M h
    exact (wpO_0 h).elim
  | succ n ih =>
    intro x2 x3 M h
    rw [fX11_year_L42.eq_2] at h
    refine g_iload_n (i := 3) (x := x3) hC (dX11_year_42) rfl rfl ?_
    refine g_aload_n (i := 0) (x := 0) hC (dX11_year_43) rfl rfl ?_
    refine g_getR (r := 22) hC flX11_77 (dX11_year_44) rfl rfl rfl ?_
    refine g_getI hC flX11_248 (dX11_year_47) rfl rfl ?_
    refine g_icmp_ge (tgt := 105) hC (dX11_year_50) (by decide) (fun c50 => ?_) (fun c50 => ?_)
    · have h := wpO_t c50 h
      refine g_sub (lv' := [(0, .ref 0), (2, .int x2)]) [0, 1] rfl ?_
      exact hx _ _ (wpO_s h)
    · have h := wpO_f c50 h
      refine g_iload_n (i := 2) (x := x2) hC (dX11_year_53) rfl rfl ?_
      refine g_iload_n (i := 3) (x := x3) hC (dX11_year_54) rfl rfl ?_
      refine g_icmp_ne (tgt := 105) hC (dX11_year_55) (by decide) (fun c55 => ?_) (fun c55 => ?_)
      · have h := wpO_f c55 h
        refine g_sub (lv' := [(0, .ref 0), (2, .int x2)]) [0, 1] rfl ?_
        exact hx _ _ (wpO_s h)
      · have h := wpO_t c55 h
        refine g_aload_n (i := 0) (x := 0) hC (dX11_year_58) rfl rfl ?_
        refine g_aload_n (i := 0) (x := 0) hC (dX11_year_59) rfl rfl ?_
        refine g_getR (r := 60) hC flX11_33 (dX11_year_60) rfl rfl rfl ?_
        refine g_aload_n (i := 0) (x := 0) hC (dX11_year_63) rfl rfl ?_
        refine g_getR (r := 22) hC flX11_77 (dX11_year_64) rfl rfl rfl ?_
        refine g_getR (r := 23) hC flX11_251 (dX11_year_67) rfl rfl rfl ?_
        refine g_iload_n (i := 3) (x := x3) hC (dX11_year_70) rfl rfl ?_
        obtain ⟨q4, h⟩ := wpO_g h
        refine g_iaload (n := 30) hC (dX11_year_71) rfl q4 ?_
        refine g_aload_n (i := 0) (x := 0) hC (dX11_year_72) rfl rfl ?_
        refine g_getR (r := 22) hC flX11_77 (dX11_year_73) rfl rfl rfl ?_
        refine g_getR (r := 24) hC flX11_254 (dX11_year_76) rfl rfl rfl ?_
        refine g_iload_n (i := 3) (x := x3) hC (dX11_year_79) rfl rfl ?_
        refine g_iaload (n := 30) hC (dX11_year_80) rfl q4 ?_
        refine g_aload_n (i := 0) (x := 0) hC (dX11_year_81) rfl rfl ?_
        refine g_getR (r := 22) hC flX11_77 (dX11_year_82) rfl rfl rfl ?_
        refine g_getR (r := 25) hC flX11_257 (dX11_year_85) rfl rfl rfl ?_
        refine g_iload_n (i := 3) (x := x3) hC (dX11_year_88) rfl rfl ?_
        refine g_iaload (n := 30) hC (dX11_year_89) rfl q4 ?_
        have h := wpO_b h
        refine g_callVi ([.ref 60, .int (M.1 23 x3.toNatClampNeg), .int (M.1 24 x3.toNatClampNeg), .int (M.1 25 x3.toNatClampNeg)]) hC wvX11_260 (dX11_year_90) rfl rfl (by omega) (Nat.le_of_ble_eq_true rfl) (cX11_perform_ok (by omega) 60 (M.1 23 x3.toNatClampNeg) (M.1 24 x3.toNatClampNeg) (M.1 25 x3.toNatClampNeg) M h) (fun r5 M90 h => ?_)
        have h := wpO_p h
        obtain ⟨x2_99, e_x2_99, h⟩ := wpO_l h
        have hJ6 : G E Γ 4 99 [(0, .ref 0), (2, .int x2_99), (3, .int x3)] [] M90 := by
          refine g_iinc (x := x3) (v := (x3 + 1)) (lv2 := [(3, .int (x3 + 1)), (0, .ref 0), (2, .int x2_99)]) hC (dX11_year_99) rfl rfl (by decide) rfl ?_
          refine g_goto (tgt := 42) hC (dX11_year_102) (by decide) ?_
          refine g_sub (lv' := [(0, .ref 0), (2, .int x2_99), (3, .int (x3 + 1))]) [1, 2, 0] rfl ?_
          exact ih _ _ _ h
        refine g_if_lt (tgt := 99) hC (dX11_year_93) (by decide) (fun c93 => ?_) (fun c93 => ?_)
        · rw [if_pos c93] at e_x2_99
          subst e_x2_99
          exact hJ6
        · rw [if_neg c93] at e_x2_99
          refine g_iinc (x := x2) (v := (x2 + 1)) (lv2 := [(2, .int (x2 + 1)), (0, .ref 0), (3, .int x3)]) hC (dX11_year_96) rfl rfl (by decide) rfl ?_
          refine g_sub (lv' := [(0, .ref 0), (2, .int (x2 + 1)), (3, .int x3)]) [1, 0, 2] rfl ?_
          subst e_x2_99
          exact hJ6
set_option maxHeartbeats 4000000 in
theorem cX11_year_ok {E : zE} {d : Nat} (hd : 6 ≤ d)  (M : zM) {K : (Int32 × zM) → Prop} (h : wpO (fX11_year  M) K) : CMi E d yX11_year cX11_year 4 (some .int) [.ref 0] M (fun r N => K (r, N)) := by
  refine CMi.of (by decide) (Nat.le_of_ble_eq_true rfl) (fun Γ hC hr => ?_)
  have hC : Cx E Γ RX11 cX11_year 4 d := hC
  show G E Γ 4 0 [(0, .ref 0)] [] M
  unfold fX11_year at h
  refine g_aload_n (i := 0) (x := 0) hC (dX11_year_0) rfl rfl ?_
  refine g_getR (r := 22) hC flX11_77 (dX11_year_1) rfl rfl rfl ?_
  refine g_aload_n (i := 0) (x := 0) hC (dX11_year_4) rfl rfl ?_
  refine g_getR (r := 1) hC flX11_10 (dX11_year_5) rfl rfl rfl ?_
  have h := wpO_b h
  refine g_callVi ([.ref 1]) hC wvX11_245 (dX11_year_8) rfl rfl (by omega) (Nat.le_of_ble_eq_true rfl) (cX0_readFrom_ok (by omega) M h) (fun r1 M8 h => ?_)
  have h := wpO_p h
  refine g_istore_n (i := 1) (lv2 := [(1, .int r1), (0, .ref 0)]) hC (dX11_year_11) rfl (by decide) rfl ?_
  refine g_aload_n (i := 0) (x := 0) hC (dX11_year_12) rfl rfl ?_
  refine g_getR (r := 1) hC flX11_10 (dX11_year_13) rfl rfl rfl ?_
  refine g_callVv ([]) hC wvX11_132 (dX11_year_16) rfl rfl (by omega) (Nat.le_of_ble_eq_true rfl) (cX9_clear_ok (by omega) M8 (K := fun r => r = fX9_clear M8) rfl) (fun N q => ?_)
  subst q
  refine g_nmM (fun M16 e_M16 => ?_)
  have h := wpO_n e_M16 h
  refine g_iload_n (i := 1) (x := r1) hC (dX11_year_19) rfl rfl ?_
  refine g_if_lt (tgt := 27) hC (dX11_year_20) (by decide) (fun c20 => ?_) (fun c20 => ?_)
  · have h := wpO_t c20 h
    refine g_aload_n (i := 0) (x := 0) hC (dX11_year_27) rfl rfl ?_
    refine g_getR (r := 9) hC flX11_43 (dX11_year_28) rfl rfl rfl ?_
    refine g_aload_n (i := 0) (x := 0) hC (dX11_year_31) rfl rfl ?_
    refine g_getR (r := 60) hC flX11_33 (dX11_year_32) rfl rfl rfl ?_
    have h := wpO_b h
    refine g_callVv ([.ref 60]) hC wvX11_220 (dX11_year_35) rfl rfl (by omega) (Nat.le_of_ble_eq_true rfl) (cX2_note_ok (by omega) 60 M16 h) (fun M35 h => ?_)
    refine g_iconst (v := 0) hC (dX11_year_38) kc_0 ?_
    refine g_istore_n (i := 2) (lv2 := [(2, .int 0), (1, .int r1), (0, .ref 0)]) hC (dX11_year_39) rfl (by decide) rfl ?_
    refine g_iconst (v := 0) hC (dX11_year_40) kc_0 ?_
    refine g_istore_n (i := 3) (lv2 := [(3, .int 0), (2, .int 0), (1, .int r1), (0, .ref 0)]) hC (dX11_year_41) rfl (by decide) rfl ?_
    refine g_sub (lv' := [(0, .ref 0), (2, .int 0), (3, .int 0)]) [3, 1, 0] rfl ?_
    refine wpO_bJ h (fun KL42 hKL42 h => ?_)
    refine lX11_year_42 (K1 := KL42) hC (by omega)  (fun x2_105 M_105 h => ?_) _ _ _ _ h
    have h := hKL42 _ h
    have h := wpO_p h
    refine g_iload_n (i := 2) (x := x2_105) hC (dX11_year_105) rfl rfl ?_
    obtain ⟨M_116, e_M_116, h⟩ := wpO_l h
    have hJ7 : G E Γ 4 116 [(0, .ref 0), (2, .int x2_105)] [] M_116 := by
      refine g_aload_n (i := 0) (x := 0) hC (dX11_year_116) rfl rfl ?_
      refine g_getR (r := 3) hC flX11_19 (dX11_year_117) rfl rfl rfl ?_
      refine g_callVv ([]) hC wvX11_230 (dX11_year_120) rfl rfl (by omega) (Nat.le_of_ble_eq_true rfl) (cX3_begin_ok (by omega) M_116 (K := fun r => r = fX3_begin M_116) rfl) (fun N q => ?_)
      subst q
      refine g_nmM (fun M120 e_M120 => ?_)
      have h := wpO_n e_M120 h
      refine g_aload_n (i := 0) (x := 0) hC (dX11_year_123) rfl rfl ?_
      refine g_getR (r := 3) hC flX11_19 (dX11_year_124) rfl rfl rfl ?_
      refine g_iload_n (i := 2) (x := x2_105) hC (dX11_year_127) rfl rfl ?_
      refine g_aload_n (i := 0) (x := 0) hC (dX11_year_128) rfl rfl ?_
      refine g_getR (r := 22) hC flX11_77 (dX11_year_129) rfl rfl rfl ?_
      refine g_getI hC flX11_248 (dX11_year_132) rfl rfl ?_
      obtain ⟨s0_143, e_s0_143, h⟩ := wpO_l h
      have hJ10 : G E Γ 4 143 [(0, .ref 0), (2, .int x2_105)] [.long s0_143, .ref 3] M120 := by
        have h := wpO_b h
        refine g_callVv ([.long s0_143]) hC wvX11_233 (dX11_year_143) rfl rfl (by omega) (Nat.le_of_ble_eq_true rfl) (cX3_tell_ok (by omega) s0_143 M120 h) (fun M143 h => ?_)
        refine g_aload_n (i := 0) (x := 0) hC (dX11_year_146) rfl rfl ?_
        refine g_getR (r := 3) hC flX11_19 (dX11_year_147) rfl rfl rfl ?_
        refine g_aload_n (i := 0) (x := 0) hC (dX11_year_150) rfl rfl ?_
        refine g_getR (r := 5) hC flX11_26 (dX11_year_151) rfl rfl rfl ?_
        refine g_aload_n (i := 0) (x := 0) hC (dX11_year_154) rfl rfl ?_
        refine g_getR (r := 60) hC flX11_33 (dX11_year_155) rfl rfl rfl ?_
        refine g_bipush (v := 6) hC (dX11_year_158) kb_6 ?_
        have h := wpO_b h
        refine g_callVi ([.int 6]) hC wvX11_204 (dX11_year_160) rfl rfl (by omega) (Nat.le_of_ble_eq_true rfl) (cX10_heldBy_ok (by omega) 60 6 M143 h) (fun r12 N q => ?_)
        obtain ⟨rfl, h⟩ := q
        have h := wpO_b h
        refine g_callVi ([.int r12]) hC wvX11_237 (dX11_year_163) rfl rfl (by omega) (Nat.le_of_ble_eq_true rfl) (cX7_doableWith_ok (by omega) r12 M143 h) (fun r13 N q => ?_)
        obtain ⟨rfl, h⟩ := q
        refine g_i2l hC (dX11_year_166) ?_
        have h := wpO_b h
        refine g_callVv ([.long r13.toInt64]) hC wvX11_233 (dX11_year_167) rfl rfl (by omega) (Nat.le_of_ble_eq_true rfl) (cX3_tell_ok (by omega) r13.toInt64 M143 h) (fun M167 h => ?_)
        refine g_iload_n (i := 2) (x := x2_105) hC (dX11_year_170) rfl rfl ?_
        refine g_ireturn hC hr (dX11_year_171) ?_
        exact wpO_s h
      refine g_icmp_ge (tgt := 142) hC (dX11_year_135) (by decide) (fun c135 => ?_) (fun c135 => ?_)
      · rw [if_pos c135] at e_s0_143
        refine g_lconst (v := 0) hC (dX11_year_142) kl_0 ?_
        subst e_s0_143
        exact hJ10
      · rw [if_neg c135] at e_s0_143
        refine g_lconst (v := 1) hC (dX11_year_138) kl_1 ?_
        refine g_goto (tgt := 143) hC (dX11_year_139) (by decide) ?_
        subst e_s0_143
        exact hJ10
    refine g_if_le (tgt := 116) hC (dX11_year_106) (by decide) (fun c106 => ?_) (fun c106 => ?_)
    · rw [if_pos c106] at e_M_116
      subst e_M_116
      exact hJ7
    · rw [if_neg c106] at e_M_116
      refine g_aload_n (i := 0) (x := 0) hC (dX11_year_109) rfl rfl ?_
      refine g_getR (r := 9) hC flX11_43 (dX11_year_110) rfl rfl rfl ?_
      refine g_callVv ([]) hC wvX11_227 (dX11_year_113) rfl rfl (by omega) (Nat.le_of_ble_eq_true rfl) (cX2_keepNoted_ok (by omega) M_105 (K := fun r => r = fX2_keepNoted M_105) rfl) (fun N q => ?_)
      subst q
      refine g_nmM (fun M113 e_M113 => ?_)
      have e_M_116 := zle e_M113 e_M_116
      subst e_M_116
      exact hJ7
  · have h := wpO_f c20 h
    refine g_iconst (v := (-1)) hC (dX11_year_23) kc_m1 ?_
    refine g_iload_n (i := 1) (x := r1) hC (dX11_year_24) rfl rfl ?_
    refine g_isub hC (dX11_year_25) ?_
    refine g_ireturn hC hr (dX11_year_26) ?_
    exact wpO_s h
/-! LostByState.undo()I -/
theorem dX11_undo_0 : decode cX11_undo 0 = .ok (.aload_n 0, 1) := by decide +kernel
theorem dX11_undo_1 : decode cX11_undo 1 = .ok (.getfield 43, 3) := by decide +kernel
theorem dX11_undo_4 : decode cX11_undo 4 = .ok (.aload_n 0, 1) := by decide +kernel
theorem dX11_undo_5 : decode cX11_undo 5 = .ok (.getfield 33, 3) := by decide +kernel
theorem dX11_undo_8 : decode cX11_undo 8 = .ok (.invokevirtual 264, 3) := by decide +kernel
theorem dX11_undo_11 : decode cX11_undo 11 = .ok (.ifCond .eq 13, 3) := by decide +kernel
theorem dX11_undo_14 : decode cX11_undo 14 = .ok (.aload_n 0, 1) := by decide +kernel
theorem dX11_undo_15 : decode cX11_undo 15 = .ok (.getfield 43, 3) := by decide +kernel
theorem dX11_undo_18 : decode cX11_undo 18 = .ok (.getfield 268, 3) := by decide +kernel
theorem dX11_undo_21 : decode cX11_undo 21 = .ok (.goto 4, 3) := by decide +kernel
theorem dX11_undo_24 : decode cX11_undo 24 = .ok (.iconst (-1), 1) := by decide +kernel
theorem dX11_undo_25 : decode cX11_undo 25 = .ok (.ireturn, 1) := by decide +kernel
def fX11_undo  (M : zM) : Option (Int32 × zM) := (fX2_bringBack 60 M).bind fun (q : Int32 × zM) => zp q fun r1 M8 =>
  if r1 = 0 then (
  some ((-1), M8))
  else (
  some (M8.1 9 2, M8))
set_option maxHeartbeats 4000000 in
theorem cX11_undo_ok {E : zE} {d : Nat} (hd : 3 ≤ d)  (M : zM) {K : (Int32 × zM) → Prop} (h : wpO (fX11_undo  M) K) : CMi E d yX11_undo cX11_undo 1 (some .int) [.ref 0] M (fun r N => K (r, N)) := by
  refine CMi.of (by decide) (Nat.le_of_ble_eq_true rfl) (fun Γ hC hr => ?_)
  have hC : Cx E Γ RX11 cX11_undo 1 d := hC
  show G E Γ 1 0 [(0, .ref 0)] [] M
  unfold fX11_undo at h
  refine g_aload_n (i := 0) (x := 0) hC (dX11_undo_0) rfl rfl ?_
  refine g_getR (r := 9) hC flX11_43 (dX11_undo_1) rfl rfl rfl ?_
  refine g_aload_n (i := 0) (x := 0) hC (dX11_undo_4) rfl rfl ?_
  refine g_getR (r := 60) hC flX11_33 (dX11_undo_5) rfl rfl rfl ?_
  have h := wpO_b h
  refine g_callVi ([.ref 60]) hC wvX11_264 (dX11_undo_8) rfl rfl (by omega) (Nat.le_of_ble_eq_true rfl) (cX2_bringBack_ok (by omega) 60 M h) (fun r1 M8 h => ?_)
  have h := wpO_p h
  refine g_if_eq (tgt := 24) hC (dX11_undo_11) (by decide) (fun c11 => ?_) (fun c11 => ?_)
  · have h := wpO_t c11 h
    refine g_iconst (v := (-1)) hC (dX11_undo_24) kc_m1 ?_
    refine g_ireturn hC hr (dX11_undo_25) ?_
    exact wpO_s h
  · have h := wpO_f c11 h
    refine g_aload_n (i := 0) (x := 0) hC (dX11_undo_14) rfl rfl ?_
    refine g_getR (r := 9) hC flX11_43 (dX11_undo_15) rfl rfl rfl ?_
    refine g_getI hC flX11_268 (dX11_undo_18) rfl rfl ?_
    refine g_goto (tgt := 25) hC (dX11_undo_21) (by decide) ?_
    refine g_ireturn hC hr (dX11_undo_25) ?_
    exact wpO_s h
/-! LostByState.toldMatch(I)I -/
theorem dX11_toldMatch_0 : decode cX11_toldMatch 0 = .ok (.sipush 1000, 3) := by decide +kernel
theorem dX11_toldMatch_3 : decode cX11_toldMatch 3 = .ok (.iload_n 0, 1) := by decide +kernel
theorem dX11_toldMatch_4 : decode cX11_toldMatch 4 = .ok (.sipush (-999), 3) := by decide +kernel
theorem dX11_toldMatch_7 : decode cX11_toldMatch 7 = .ok (.sipush 999, 3) := by decide +kernel
theorem dX11_toldMatch_10 : decode cX11_toldMatch 10 = .ok (.invokestatic 301, 3) := by decide +kernel
theorem dX11_toldMatch_13 : decode cX11_toldMatch 13 = .ok (.iadd, 1) := by decide +kernel
theorem dX11_toldMatch_14 : decode cX11_toldMatch 14 = .ok (.ireturn, 1) := by decide +kernel
def fX11_toldMatch (x0 : Int32) : Int32 := (1000 + (fX11_putBetween x0 (-999) 999))
set_option maxHeartbeats 4000000 in
theorem cX11_toldMatch_ok {E : zE} {d : Nat} (hd : 2 ≤ d) (x0 : Int32) (M : zM) {K : Int32 → Prop} (h : wpI (fX11_toldMatch x0) K) : CMi E d yX11_toldMatch cX11_toldMatch 1 (some .int) [.int x0] M (fun r N => M = N ∧ K r) := by
  refine CMi.of (by decide) (Nat.le_of_ble_eq_true rfl) (fun Γ hC hr => ?_)
  have hC : Cx E Γ RX11 cX11_toldMatch 1 d := hC
  show G E Γ 1 0 [(0, .int x0)] [] M
  unfold fX11_toldMatch at h
  refine g_sipush (v := 1000) hC (dX11_toldMatch_0) ks_1000 ?_
  refine g_iload_n (i := 0) (x := x0) hC (dX11_toldMatch_3) rfl rfl ?_
  refine g_sipush (v := (-999)) hC (dX11_toldMatch_4) ks_m999 ?_
  refine g_sipush (v := 999) hC (dX11_toldMatch_7) ks_999 ?_
  refine g_callSi ([.int x0, .int (-999), .int 999]) hC wsX11_301 (dX11_toldMatch_10) rfl (by omega) (Nat.le_of_ble_eq_true rfl) (cX11_putBetween_ok (by omega) x0 (-999) 999 M (K := fun r => r = fX11_putBetween x0 (-999) 999) rfl) (fun r N q => ?_)
  obtain ⟨rfl, rfl⟩ := q
  refine g_iadd hC (dX11_toldMatch_13) ?_
  refine g_ireturn hC hr (dX11_toldMatch_14) ?_
  exact ⟨rfl, wpI_s h⟩
/-! LostByState.match(II)I -/
theorem dX11_match_0 : decode cX11_match 0 = .ok (.iload_n 1, 1) := by decide +kernel
theorem dX11_match_1 : decode cX11_match 1 = .ok (.invokestatic 269, 3) := by decide +kernel
theorem dX11_match_4 : decode cX11_match 4 = .ok (.ifCond .eq 11, 3) := by decide +kernel
theorem dX11_match_7 : decode cX11_match 7 = .ok (.aload_n 0, 1) := by decide +kernel
theorem dX11_match_8 : decode cX11_match 8 = .ok (.iload_n 2, 1) := by decide +kernel
theorem dX11_match_9 : decode cX11_match 9 = .ok (.invokevirtual 166, 3) := by decide +kernel
theorem dX11_match_12 : decode cX11_match 12 = .ok (.ifCond .ne 5, 3) := by decide +kernel
theorem dX11_match_15 : decode cX11_match 15 = .ok (.iconst (-1), 1) := by decide +kernel
theorem dX11_match_16 : decode cX11_match 16 = .ok (.ireturn, 1) := by decide +kernel
theorem dX11_match_17 : decode cX11_match 17 = .ok (.aload_n 0, 1) := by decide +kernel
theorem dX11_match_18 : decode cX11_match 18 = .ok (.iload_n 1, 1) := by decide +kernel
theorem dX11_match_19 : decode cX11_match 19 = .ok (.iload_n 2, 1) := by decide +kernel
theorem dX11_match_20 : decode cX11_match 20 = .ok (.aload_n 0, 1) := by decide +kernel
theorem dX11_match_21 : decode cX11_match 21 = .ok (.getfield 33, 3) := by decide +kernel
theorem dX11_match_24 : decode cX11_match 24 = .ok (.invokevirtual 272, 3) := by decide +kernel
theorem dX11_match_27 : decode cX11_match 27 = .ok (.invokestatic 276, 3) := by decide +kernel
theorem dX11_match_30 : decode cX11_match 30 = .ok (.ireturn, 1) := by decide +kernel
def fX11_match (x1 : Int32) (x2 : Int32) (M : zM) : Option (Int32 × zM) := if (fX11_isDescription x1) = 0 then (
  some ((-1), M))
  else (
  if (fX11_isThing x2 M) = 0 then (
  some ((-1), M))
  else (
  (fX11_matchOf x1 x2 60 M).bind fun (q : Int32 × zM) => zp q fun r3 M24 =>
  some (fX11_toldMatch r3, M24)))
set_option maxHeartbeats 4000000 in
theorem cX11_match_ok {E : zE} {d : Nat} (hd : 3 ≤ d) (x1 : Int32) (x2 : Int32) (M : zM) {K : (Int32 × zM) → Prop} (h : wpO (fX11_match x1 x2 M) K) : CMi E d yX11_match cX11_match 3 (some .int) [.ref 0, .int x1, .int x2] M (fun r N => K (r, N)) := by
  refine CMi.of (by decide) (Nat.le_of_ble_eq_true rfl) (fun Γ hC hr => ?_)
  have hC : Cx E Γ RX11 cX11_match 3 d := hC
  show G E Γ 3 0 [(0, .ref 0), (1, .int x1), (2, .int x2)] [] M
  unfold fX11_match at h
  refine g_iload_n (i := 1) (x := x1) hC (dX11_match_0) rfl rfl ?_
  refine g_callSi ([.int x1]) hC wsX11_269 (dX11_match_1) rfl (by omega) (Nat.le_of_ble_eq_true rfl) (cX11_isDescription_ok (by omega) x1 M (K := fun r => r = fX11_isDescription x1) rfl) (fun r N q => ?_)
  obtain ⟨rfl, rfl⟩ := q
  refine g_if_eq (tgt := 15) hC (dX11_match_4) (by decide) (fun c4 => ?_) (fun c4 => ?_)
  · have h := wpO_t c4 h
    refine g_iconst (v := (-1)) hC (dX11_match_15) kc_m1 ?_
    refine g_ireturn hC hr (dX11_match_16) ?_
    exact wpO_s h
  · have h := wpO_f c4 h
    refine g_aload_n (i := 0) (x := 0) hC (dX11_match_7) rfl rfl ?_
    refine g_iload_n (i := 2) (x := x2) hC (dX11_match_8) rfl rfl ?_
    refine g_callVi ([.int x2]) hC wvX11_166 (dX11_match_9) rfl rfl (by omega) (Nat.le_of_ble_eq_true rfl) (cX11_isThing_ok (by omega) x2 M (K := fun r => r = fX11_isThing x2 M) rfl) (fun r N q => ?_)
    obtain ⟨rfl, rfl⟩ := q
    refine g_if_ne (tgt := 17) hC (dX11_match_12) (by decide) (fun c12 => ?_) (fun c12 => ?_)
    · have h := wpO_f c12 h
      refine g_aload_n (i := 0) (x := 0) hC (dX11_match_17) rfl rfl ?_
      refine g_iload_n (i := 1) (x := x1) hC (dX11_match_18) rfl rfl ?_
      refine g_iload_n (i := 2) (x := x2) hC (dX11_match_19) rfl rfl ?_
      refine g_aload_n (i := 0) (x := 0) hC (dX11_match_20) rfl rfl ?_
      refine g_getR (r := 60) hC flX11_33 (dX11_match_21) rfl rfl rfl ?_
      have h := wpO_b h
      refine g_callVi ([.int x1, .int x2, .ref 60]) hC wvX11_272 (dX11_match_24) rfl rfl (by omega) (Nat.le_of_ble_eq_true rfl) (cX11_matchOf_ok (by omega) x1 x2 60 M h) (fun r3 M24 h => ?_)
      have h := wpO_p h
      refine g_callSi ([.int r3]) hC wsX11_276 (dX11_match_27) rfl (by omega) (Nat.le_of_ble_eq_true rfl) (cX11_toldMatch_ok (by omega) r3 M24 (K := fun r => r = fX11_toldMatch r3) rfl) (fun r N q => ?_)
      obtain ⟨rfl, rfl⟩ := q
      refine g_ireturn hC hr (dX11_match_30) ?_
      exact wpO_s h
    · have h := wpO_t c12 h
      refine g_iconst (v := (-1)) hC (dX11_match_15) kc_m1 ?_
      refine g_ireturn hC hr (dX11_match_16) ?_
      exact wpO_s h
/-! LostByState.howManyMatch(I)I -/
theorem dX11_howManyMatch_0 : decode cX11_howManyMatch 0 = .ok (.iconst 0, 1) := by decide +kernel
theorem dX11_howManyMatch_1 : decode cX11_howManyMatch 1 = .ok (.istore_n 2, 1) := by decide +kernel
theorem dX11_howManyMatch_2 : decode cX11_howManyMatch 2 = .ok (.iconst 0, 1) := by decide +kernel
theorem dX11_howManyMatch_3 : decode cX11_howManyMatch 3 = .ok (.istore_n 3, 1) := by decide +kernel
theorem dX11_howManyMatch_4 : decode cX11_howManyMatch 4 = .ok (.iload_n 3, 1) := by decide +kernel
theorem dX11_howManyMatch_5 : decode cX11_howManyMatch 5 = .ok (.aload_n 0, 1) := by decide +kernel
theorem dX11_howManyMatch_6 : decode cX11_howManyMatch 6 = .ok (.getfield 26, 3) := by decide +kernel
theorem dX11_howManyMatch_9 : decode cX11_howManyMatch 9 = .ok (.getfield 135, 3) := by decide +kernel
theorem dX11_howManyMatch_12 : decode cX11_howManyMatch 12 = .ok (.if_icmp .ge 40, 3) := by decide +kernel
theorem dX11_howManyMatch_15 : decode cX11_howManyMatch 15 = .ok (.aload_n 0, 1) := by decide +kernel
theorem dX11_howManyMatch_16 : decode cX11_howManyMatch 16 = .ok (.getfield 33, 3) := by decide +kernel
theorem dX11_howManyMatch_19 : decode cX11_howManyMatch 19 = .ok (.iload_n 3, 1) := by decide +kernel
theorem dX11_howManyMatch_20 : decode cX11_howManyMatch 20 = .ok (.invokevirtual 316, 3) := by decide +kernel
theorem dX11_howManyMatch_23 : decode cX11_howManyMatch 23 = .ok (.ifCond .eq 23, 3) := by decide +kernel
theorem dX11_howManyMatch_26 : decode cX11_howManyMatch 26 = .ok (.aload_n 0, 1) := by decide +kernel
theorem dX11_howManyMatch_27 : decode cX11_howManyMatch 27 = .ok (.iload_n 1, 1) := by decide +kernel
theorem dX11_howManyMatch_28 : decode cX11_howManyMatch 28 = .ok (.iload_n 3, 1) := by decide +kernel
theorem dX11_howManyMatch_29 : decode cX11_howManyMatch 29 = .ok (.aload_n 0, 1) := by decide +kernel
theorem dX11_howManyMatch_30 : decode cX11_howManyMatch 30 = .ok (.getfield 33, 3) := by decide +kernel
theorem dX11_howManyMatch_33 : decode cX11_howManyMatch 33 = .ok (.invokevirtual 272, 3) := by decide +kernel
theorem dX11_howManyMatch_36 : decode cX11_howManyMatch 36 = .ok (.aload_n 0, 1) := by decide +kernel
theorem dX11_howManyMatch_37 : decode cX11_howManyMatch 37 = .ok (.getfield 113, 3) := by decide +kernel
theorem dX11_howManyMatch_40 : decode cX11_howManyMatch 40 = .ok (.if_icmp .lt 6, 3) := by decide +kernel
theorem dX11_howManyMatch_43 : decode cX11_howManyMatch 43 = .ok (.iinc 2 1, 3) := by decide +kernel
theorem dX11_howManyMatch_46 : decode cX11_howManyMatch 46 = .ok (.iinc 3 1, 3) := by decide +kernel
theorem dX11_howManyMatch_49 : decode cX11_howManyMatch 49 = .ok (.goto (-45), 3) := by decide +kernel
theorem dX11_howManyMatch_52 : decode cX11_howManyMatch 52 = .ok (.iload_n 2, 1) := by decide +kernel
theorem dX11_howManyMatch_53 : decode cX11_howManyMatch 53 = .ok (.ireturn, 1) := by decide +kernel
def fX11_howManyMatch_L4 (x1 : Int32) : Nat → Int32 → Int32 → zM → Option (Int32 × zM)
  | 0, _, _, _ => none
  | n + 1, x2, x3, M => if (M.1 5 3) ≤ x3 then (
    some (x2, M))
    else (
    (fX10_isIn 60 x3 M).bind fun (r1 : Int32) =>
    (if r1 = 0 then (
    some (x2, M))
    else (
    (fX11_matchOf x1 x3 60 M).bind fun (q : Int32 × zM) => zp q fun r3 M33 =>
    if r3 < (M33.1 0 18) then (
    some (x2, M33))
    else (
    some (x2 + 1, M33))) : Option (Int32 × zM)).bind fun (q : Int32 × zM) => zp q fun x2_46 M_46 =>
    fX11_howManyMatch_L4 x1 n x2_46 (x3 + 1) M_46)
def fX11_howManyMatch (x1 : Int32) (M : zM) : Option (Int32 × zM) := (fX11_howManyMatch_L4 x1 4000 0 0 M).bind fun (q : Int32 × zM) => zp q fun x2_52 M_52 =>
  some (x2_52, M_52)
set_option maxHeartbeats 4000000 in
theorem lX11_howManyMatch_4 {E : zE} {Γ : zT} {d : Nat} {K1 : (Int32 × zM) → Prop} (hC : Cx E Γ RX11 cX11_howManyMatch 4 d) (hd : 3 ≤ d) (x1 : Int32) (hx : ∀ (x2_52 : Int32) (M_52 : zM), K1 (x2_52, M_52) → G E Γ 4 52 [(2, .int x2_52)] [] M_52) :
    ∀ (n : Nat) (x2 : Int32) (x3 : Int32) (M : zM), wpO (fX11_howManyMatch_L4 x1 n x2 x3 M) K1 → G E Γ 4 4 [(0, .ref 0), (1, .int x1), (2, .int x2), (3, .int x3)] [] M := by
  intro n
  induction n with
  | zero =>
    intro x2 x3 M h
    exact (wpO_0 h).elim
  | succ n ih =>
    intro x2 x3 M h
    rw [fX11_howManyMatch_L4.eq_2] at h
    refine g_iload_n (i := 3) (x := x3) hC (dX11_howManyMatch_4) rfl rfl ?_
    refine g_aload_n (i := 0) (x := 0) hC (dX11_howManyMatch_5) rfl rfl ?_
    refine g_getR (r := 5) hC flX11_26 (dX11_howManyMatch_6) rfl rfl rfl ?_
    refine g_getI hC flX11_135 (dX11_howManyMatch_9) rfl rfl ?_
    refine g_icmp_ge (tgt := 52) hC (dX11_howManyMatch_12) (by decide) (fun c12 => ?_) (fun c12 => ?_)
    · have h := wpO_t c12 h
      refine g_sub (lv' := [(2, .int x2)]) [2] rfl ?_
      exact hx _ _ (wpO_s h)
    · have h := wpO_f c12 h
      refine g_aload_n (i := 0) (x := 0) hC (dX11_howManyMatch_15) rfl rfl ?_
      refine g_getR (r := 60) hC flX11_33 (dX11_howManyMatch_16) rfl rfl rfl ?_
      refine g_iload_n (i := 3) (x := x3) hC (dX11_howManyMatch_19) rfl rfl ?_
      have h := wpO_b h
      refine g_callVi ([.int x3]) hC wvX11_316 (dX11_howManyMatch_20) rfl rfl (by omega) (Nat.le_of_ble_eq_true rfl) (cX10_isIn_ok (by omega) 60 x3 M h) (fun r1 N q => ?_)
      obtain ⟨rfl, h⟩ := q
      refine wpO_bJ h (fun KJ2 hKJ2 h => ?_)
      have hJ2 : ∀ (x2_46 : Int32) (M_46 : zM), KJ2 (x2_46, M_46) → G E Γ 4 46 [(0, .ref 0), (1, .int x1), (2, .int x2_46), (3, .int x3)] [] M_46 := by
        intro x2_46 M_46 h
        have h := hKJ2 _ h
        have h := wpO_p h
        refine g_iinc (x := x3) (v := (x3 + 1)) (lv2 := [(3, .int (x3 + 1)), (0, .ref 0), (1, .int x1), (2, .int x2_46)]) hC (dX11_howManyMatch_46) rfl rfl (by decide) rfl ?_
        refine g_goto (tgt := 4) hC (dX11_howManyMatch_49) (by decide) ?_
        refine g_sub (lv' := [(0, .ref 0), (1, .int x1), (2, .int x2_46), (3, .int (x3 + 1))]) [1, 2, 3, 0] rfl ?_
        exact ih _ _ _ h
      refine g_if_eq (tgt := 46) hC (dX11_howManyMatch_23) (by decide) (fun c23 => ?_) (fun c23 => ?_)
      · have h := wpO_t c23 h
        exact hJ2 _ _ (wpO_s h)
      · have h := wpO_f c23 h
        refine g_aload_n (i := 0) (x := 0) hC (dX11_howManyMatch_26) rfl rfl ?_
        refine g_iload_n (i := 1) (x := x1) hC (dX11_howManyMatch_27) rfl rfl ?_
        refine g_iload_n (i := 3) (x := x3) hC (dX11_howManyMatch_28) rfl rfl ?_
        refine g_aload_n (i := 0) (x := 0) hC (dX11_howManyMatch_29) rfl rfl ?_
        refine g_getR (r := 60) hC flX11_33 (dX11_howManyMatch_30) rfl rfl rfl ?_
        have h := wpO_b h
        refine g_callVi ([.int x1, .int x3, .ref 60]) hC wvX11_272 (dX11_howManyMatch_33) rfl rfl (by omega) (Nat.le_of_ble_eq_true rfl) (cX11_matchOf_ok (by omega) x1 x3 60 M h) (fun r3 M33 h => ?_)
        have h := wpO_p h
        refine g_aload_n (i := 0) (x := 0) hC (dX11_howManyMatch_36) rfl rfl ?_
        refine g_getI hC flX11_113 (dX11_howManyMatch_37) rfl rfl ?_
        refine g_icmp_lt (tgt := 46) hC (dX11_howManyMatch_40) (by decide) (fun c40 => ?_) (fun c40 => ?_)
        · have h := wpO_t c40 h
          exact hJ2 _ _ (wpO_s h)
        · have h := wpO_f c40 h
          refine g_iinc (x := x2) (v := (x2 + 1)) (lv2 := [(2, .int (x2 + 1)), (0, .ref 0), (1, .int x1), (3, .int x3)]) hC (dX11_howManyMatch_43) rfl rfl (by decide) rfl ?_
          refine g_sub (lv' := [(0, .ref 0), (1, .int x1), (2, .int (x2 + 1)), (3, .int x3)]) [1, 2, 0, 3] rfl ?_
          exact hJ2 _ _ (wpO_s h)
set_option maxHeartbeats 4000000 in
theorem cX11_howManyMatch_ok {E : zE} {d : Nat} (hd : 3 ≤ d) (x1 : Int32) (M : zM) {K : (Int32 × zM) → Prop} (h : wpO (fX11_howManyMatch x1 M) K) : CMi E d yX11_howManyMatch cX11_howManyMatch 4 (some .int) [.ref 0, .int x1] M (fun r N => K (r, N)) := by
  refine CMi.of (by decide) (Nat.le_of_ble_eq_true rfl) (fun Γ hC hr => ?_)
  have hC : Cx E Γ RX11 cX11_howManyMatch 4 d := hC
  show G E Γ 4 0 [(0, .ref 0), (1, .int x1)] [] M
  unfold fX11_howManyMatch at h
  refine g_iconst (v := 0) hC (dX11_howManyMatch_0) kc_0 ?_
  refine g_istore_n (i := 2) (lv2 := [(2, .int 0), (0, .ref 0), (1, .int x1)]) hC (dX11_howManyMatch_1) rfl (by decide) rfl ?_
  refine g_iconst (v := 0) hC (dX11_howManyMatch_2) kc_0 ?_
  refine g_istore_n (i := 3) (lv2 := [(3, .int 0), (2, .int 0), (0, .ref 0), (1, .int x1)]) hC (dX11_howManyMatch_3) rfl (by decide) rfl ?_
  refine g_sub (lv' := [(0, .ref 0), (1, .int x1), (2, .int 0), (3, .int 0)]) [2, 3, 1, 0] rfl ?_
  refine wpO_bJ h (fun KL4 hKL4 h => ?_)
  refine lX11_howManyMatch_4 (K1 := KL4) hC (by omega) x1 (fun x2_52 M_52 h => ?_) _ _ _ _ h
  have h := hKL4 _ h
  have h := wpO_p h
  refine g_iload_n (i := 2) (x := x2_52) hC (dX11_howManyMatch_52) rfl rfl ?_
  refine g_ireturn hC hr (dX11_howManyMatch_53) ?_
  exact wpO_s h
/-! LostByState.gets(I)I -/
theorem dX11_gets_0 : decode cX11_gets 0 = .ok (.iload_n 1, 1) := by decide +kernel
theorem dX11_gets_1 : decode cX11_gets 1 = .ok (.invokestatic 269, 3) := by decide +kernel
theorem dX11_gets_4 : decode cX11_gets 4 = .ok (.ifCond .ne 5, 3) := by decide +kernel
theorem dX11_gets_7 : decode cX11_gets 7 = .ok (.iconst (-1), 1) := by decide +kernel
theorem dX11_gets_8 : decode cX11_gets 8 = .ok (.ireturn, 1) := by decide +kernel
theorem dX11_gets_9 : decode cX11_gets 9 = .ok (.aload_n 0, 1) := by decide +kernel
theorem dX11_gets_10 : decode cX11_gets 10 = .ok (.iload_n 1, 1) := by decide +kernel
theorem dX11_gets_11 : decode cX11_gets 11 = .ok (.aload_n 0, 1) := by decide +kernel
theorem dX11_gets_12 : decode cX11_gets 12 = .ok (.getfield 33, 3) := by decide +kernel
theorem dX11_gets_15 : decode cX11_gets 15 = .ok (.invokevirtual 279, 3) := by decide +kernel
theorem dX11_gets_18 : decode cX11_gets 18 = .ok (.istore_n 2, 1) := by decide +kernel
theorem dX11_gets_19 : decode cX11_gets 19 = .ok (.iload_n 2, 1) := by decide +kernel
theorem dX11_gets_20 : decode cX11_gets 20 = .ok (.ifCond .ge 6, 3) := by decide +kernel
theorem dX11_gets_23 : decode cX11_gets 23 = .ok (.bipush (-2), 2) := by decide +kernel
theorem dX11_gets_25 : decode cX11_gets 25 = .ok (.ireturn, 1) := by decide +kernel
theorem dX11_gets_26 : decode cX11_gets 26 = .ok (.aload_n 0, 1) := by decide +kernel
theorem dX11_gets_27 : decode cX11_gets 27 = .ok (.getfield 19, 3) := by decide +kernel
theorem dX11_gets_30 : decode cX11_gets 30 = .ok (.invokevirtual 230, 3) := by decide +kernel
theorem dX11_gets_33 : decode cX11_gets 33 = .ok (.aload_n 0, 1) := by decide +kernel
theorem dX11_gets_34 : decode cX11_gets 34 = .ok (.getfield 19, 3) := by decide +kernel
theorem dX11_gets_37 : decode cX11_gets 37 = .ok (.aload_n 0, 1) := by decide +kernel
theorem dX11_gets_38 : decode cX11_gets 38 = .ok (.iload_n 1, 1) := by decide +kernel
theorem dX11_gets_39 : decode cX11_gets 39 = .ok (.iload_n 2, 1) := by decide +kernel
theorem dX11_gets_40 : decode cX11_gets 40 = .ok (.aload_n 0, 1) := by decide +kernel
theorem dX11_gets_41 : decode cX11_gets 41 = .ok (.getfield 33, 3) := by decide +kernel
theorem dX11_gets_44 : decode cX11_gets 44 = .ok (.invokevirtual 272, 3) := by decide +kernel
theorem dX11_gets_47 : decode cX11_gets 47 = .ok (.invokestatic 276, 3) := by decide +kernel
theorem dX11_gets_50 : decode cX11_gets 50 = .ok (.i2l, 1) := by decide +kernel
theorem dX11_gets_51 : decode cX11_gets 51 = .ok (.invokevirtual 233, 3) := by decide +kernel
theorem dX11_gets_54 : decode cX11_gets 54 = .ok (.aload_n 0, 1) := by decide +kernel
theorem dX11_gets_55 : decode cX11_gets 55 = .ok (.getfield 19, 3) := by decide +kernel
theorem dX11_gets_58 : decode cX11_gets 58 = .ok (.aload_n 0, 1) := by decide +kernel
theorem dX11_gets_59 : decode cX11_gets 59 = .ok (.iload_n 1, 1) := by decide +kernel
theorem dX11_gets_60 : decode cX11_gets 60 = .ok (.invokevirtual 283, 3) := by decide +kernel
theorem dX11_gets_63 : decode cX11_gets 63 = .ok (.i2l, 1) := by decide +kernel
theorem dX11_gets_64 : decode cX11_gets 64 = .ok (.invokevirtual 233, 3) := by decide +kernel
theorem dX11_gets_67 : decode cX11_gets 67 = .ok (.iload_n 2, 1) := by decide +kernel
theorem dX11_gets_68 : decode cX11_gets 68 = .ok (.ireturn, 1) := by decide +kernel
def fX11_gets (x1 : Int32) (M : zM) : Option (Int32 × zM) := if (fX11_isDescription x1) = 0 then (
  some ((-1), M))
  else (
  (fX11_bestThing x1 60 M).bind fun (q : Int32 × zM) => zp q fun r2 M15 =>
  if 0 ≤ r2 then (
  zlet (fX3_begin M15) fun (M30 : zM) =>
  (fX11_matchOf x1 r2 60 M30).bind fun (q : Int32 × zM) => zp q fun r4 M44 =>
  (fX3_tell ((fX11_toldMatch r4).toInt64) M44).bind fun (M51 : zM) =>
  (fX11_howManyMatch x1 M51).bind fun (q : Int32 × zM) => zp q fun r7 M60 =>
  (fX3_tell r7.toInt64 M60).bind fun (M64 : zM) =>
  some (r2, M64))
  else (
  some ((-2), M15)))
set_option maxHeartbeats 4000000 in
theorem cX11_gets_ok {E : zE} {d : Nat} (hd : 4 ≤ d) (x1 : Int32) (M : zM) {K : (Int32 × zM) → Prop} (h : wpO (fX11_gets x1 M) K) : CMi E d yX11_gets cX11_gets 3 (some .int) [.ref 0, .int x1] M (fun r N => K (r, N)) := by
  refine CMi.of (by decide) (Nat.le_of_ble_eq_true rfl) (fun Γ hC hr => ?_)
  have hC : Cx E Γ RX11 cX11_gets 3 d := hC
  show G E Γ 3 0 [(0, .ref 0), (1, .int x1)] [] M
  unfold fX11_gets at h
  refine g_iload_n (i := 1) (x := x1) hC (dX11_gets_0) rfl rfl ?_
  refine g_callSi ([.int x1]) hC wsX11_269 (dX11_gets_1) rfl (by omega) (Nat.le_of_ble_eq_true rfl) (cX11_isDescription_ok (by omega) x1 M (K := fun r => r = fX11_isDescription x1) rfl) (fun r N q => ?_)
  obtain ⟨rfl, rfl⟩ := q
  refine g_if_ne (tgt := 9) hC (dX11_gets_4) (by decide) (fun c4 => ?_) (fun c4 => ?_)
  · have h := wpO_f c4 h
    refine g_aload_n (i := 0) (x := 0) hC (dX11_gets_9) rfl rfl ?_
    refine g_iload_n (i := 1) (x := x1) hC (dX11_gets_10) rfl rfl ?_
    refine g_aload_n (i := 0) (x := 0) hC (dX11_gets_11) rfl rfl ?_
    refine g_getR (r := 60) hC flX11_33 (dX11_gets_12) rfl rfl rfl ?_
    have h := wpO_b h
    refine g_callVi ([.int x1, .ref 60]) hC wvX11_279 (dX11_gets_15) rfl rfl (by omega) (Nat.le_of_ble_eq_true rfl) (cX11_bestThing_ok (by omega) x1 60 M h) (fun r2 M15 h => ?_)
    have h := wpO_p h
    refine g_istore_n (i := 2) (lv2 := [(2, .int r2), (0, .ref 0), (1, .int x1)]) hC (dX11_gets_18) rfl (by decide) rfl ?_
    refine g_iload_n (i := 2) (x := r2) hC (dX11_gets_19) rfl rfl ?_
    refine g_if_ge (tgt := 26) hC (dX11_gets_20) (by decide) (fun c20 => ?_) (fun c20 => ?_)
    · have h := wpO_t c20 h
      refine g_aload_n (i := 0) (x := 0) hC (dX11_gets_26) rfl rfl ?_
      refine g_getR (r := 3) hC flX11_19 (dX11_gets_27) rfl rfl rfl ?_
      refine g_callVv ([]) hC wvX11_230 (dX11_gets_30) rfl rfl (by omega) (Nat.le_of_ble_eq_true rfl) (cX3_begin_ok (by omega) M15 (K := fun r => r = fX3_begin M15) rfl) (fun N q => ?_)
      subst q
      refine g_nmM (fun M30 e_M30 => ?_)
      have h := wpO_n e_M30 h
      refine g_aload_n (i := 0) (x := 0) hC (dX11_gets_33) rfl rfl ?_
      refine g_getR (r := 3) hC flX11_19 (dX11_gets_34) rfl rfl rfl ?_
      refine g_aload_n (i := 0) (x := 0) hC (dX11_gets_37) rfl rfl ?_
      refine g_iload_n (i := 1) (x := x1) hC (dX11_gets_38) rfl rfl ?_
      refine g_iload_n (i := 2) (x := r2) hC (dX11_gets_39) rfl rfl ?_
      refine g_aload_n (i := 0) (x := 0) hC (dX11_gets_40) rfl rfl ?_
      refine g_getR (r := 60) hC flX11_33 (dX11_gets_41) rfl rfl rfl ?_
      have h := wpO_b h
      refine g_callVi ([.int x1, .int r2, .ref 60]) hC wvX11_272 (dX11_gets_44) rfl rfl (by omega) (Nat.le_of_ble_eq_true rfl) (cX11_matchOf_ok (by omega) x1 r2 60 M30 h) (fun r4 M44 h => ?_)
      have h := wpO_p h
      refine g_callSi ([.int r4]) hC wsX11_276 (dX11_gets_47) rfl (by omega) (Nat.le_of_ble_eq_true rfl) (cX11_toldMatch_ok (by omega) r4 M44 (K := fun r => r = fX11_toldMatch r4) rfl) (fun r N q => ?_)
      obtain ⟨rfl, rfl⟩ := q
      refine g_i2l hC (dX11_gets_50) ?_
      have h := wpO_b h
      refine g_callVv ([.long ((fX11_toldMatch r4).toInt64)]) hC wvX11_233 (dX11_gets_51) rfl rfl (by omega) (Nat.le_of_ble_eq_true rfl) (cX3_tell_ok (by omega) ((fX11_toldMatch r4).toInt64) M44 h) (fun M51 h => ?_)
      refine g_aload_n (i := 0) (x := 0) hC (dX11_gets_54) rfl rfl ?_
      refine g_getR (r := 3) hC flX11_19 (dX11_gets_55) rfl rfl rfl ?_
      refine g_aload_n (i := 0) (x := 0) hC (dX11_gets_58) rfl rfl ?_
      refine g_iload_n (i := 1) (x := x1) hC (dX11_gets_59) rfl rfl ?_
      have h := wpO_b h
      refine g_callVi ([.int x1]) hC wvX11_283 (dX11_gets_60) rfl rfl (by omega) (Nat.le_of_ble_eq_true rfl) (cX11_howManyMatch_ok (by omega) x1 M51 h) (fun r7 M60 h => ?_)
      have h := wpO_p h
      refine g_i2l hC (dX11_gets_63) ?_
      have h := wpO_b h
      refine g_callVv ([.long r7.toInt64]) hC wvX11_233 (dX11_gets_64) rfl rfl (by omega) (Nat.le_of_ble_eq_true rfl) (cX3_tell_ok (by omega) r7.toInt64 M60 h) (fun M64 h => ?_)
      refine g_iload_n (i := 2) (x := r2) hC (dX11_gets_67) rfl rfl ?_
      refine g_ireturn hC hr (dX11_gets_68) ?_
      exact wpO_s h
    · have h := wpO_f c20 h
      refine g_bipush (v := (-2)) hC (dX11_gets_23) kb_m2 ?_
      refine g_ireturn hC hr (dX11_gets_25) ?_
      exact wpO_s h
  · have h := wpO_t c4 h
    refine g_iconst (v := (-1)) hC (dX11_gets_7) kc_m1 ?_
    refine g_ireturn hC hr (dX11_gets_8) ?_
    exact wpO_s h
/-! LostByState.surveyBy(LLostByState$Rule;)V -/
theorem dX11_surveyBy_0 : decode cX11_surveyBy 0 = .ok (.aload_n 0, 1) := by decide +kernel
theorem dX11_surveyBy_1 : decode cX11_surveyBy 1 = .ok (.getfield 91, 3) := by decide +kernel
theorem dX11_surveyBy_4 : decode cX11_surveyBy 4 = .ok (.invokevirtual 448, 3) := by decide +kernel
theorem dX11_surveyBy_7 : decode cX11_surveyBy 7 = .ok (.iconst 0, 1) := by decide +kernel
theorem dX11_surveyBy_8 : decode cX11_surveyBy 8 = .ok (.istore_n 2, 1) := by decide +kernel
theorem dX11_surveyBy_9 : decode cX11_surveyBy 9 = .ok (.iload_n 2, 1) := by decide +kernel
theorem dX11_surveyBy_10 : decode cX11_surveyBy 10 = .ok (.aload_n 0, 1) := by decide +kernel
theorem dX11_surveyBy_11 : decode cX11_surveyBy 11 = .ok (.getfield 26, 3) := by decide +kernel
theorem dX11_surveyBy_14 : decode cX11_surveyBy 14 = .ok (.getfield 135, 3) := by decide +kernel
theorem dX11_surveyBy_17 : decode cX11_surveyBy 17 = .ok (.if_icmp .ge 77, 3) := by decide +kernel
theorem dX11_surveyBy_20 : decode cX11_surveyBy 20 = .ok (.aload_n 0, 1) := by decide +kernel
theorem dX11_surveyBy_21 : decode cX11_surveyBy 21 = .ok (.getfield 33, 3) := by decide +kernel
theorem dX11_surveyBy_24 : decode cX11_surveyBy 24 = .ok (.iload_n 2, 1) := by decide +kernel
theorem dX11_surveyBy_25 : decode cX11_surveyBy 25 = .ok (.invokevirtual 316, 3) := by decide +kernel
theorem dX11_surveyBy_28 : decode cX11_surveyBy 28 = .ok (.ifCond .eq 60, 3) := by decide +kernel
theorem dX11_surveyBy_31 : decode cX11_surveyBy 31 = .ok (.aload_n 0, 1) := by decide +kernel
theorem dX11_surveyBy_32 : decode cX11_surveyBy 32 = .ok (.getfield 26, 3) := by decide +kernel
theorem dX11_surveyBy_35 : decode cX11_surveyBy 35 = .ok (.getfield 176, 3) := by decide +kernel
theorem dX11_surveyBy_38 : decode cX11_surveyBy 38 = .ok (.iload_n 2, 1) := by decide +kernel
theorem dX11_surveyBy_39 : decode cX11_surveyBy 39 = .ok (.iaload, 1) := by decide +kernel
theorem dX11_surveyBy_40 : decode cX11_surveyBy 40 = .ok (.istore_n 3, 1) := by decide +kernel
theorem dX11_surveyBy_41 : decode cX11_surveyBy 41 = .ok (.aload_n 0, 1) := by decide +kernel
theorem dX11_surveyBy_42 : decode cX11_surveyBy 42 = .ok (.getfield 91, 3) := by decide +kernel
theorem dX11_surveyBy_45 : decode cX11_surveyBy 45 = .ok (.aload_n 1, 1) := by decide +kernel
theorem dX11_surveyBy_46 : decode cX11_surveyBy 46 = .ok (.iload_n 3, 1) := by decide +kernel
theorem dX11_surveyBy_47 : decode cX11_surveyBy 47 = .ok (.aload_n 0, 1) := by decide +kernel
theorem dX11_surveyBy_48 : decode cX11_surveyBy 48 = .ok (.getfield 26, 3) := by decide +kernel
theorem dX11_surveyBy_51 : decode cX11_surveyBy 51 = .ok (.getfield 179, 3) := by decide +kernel
theorem dX11_surveyBy_54 : decode cX11_surveyBy 54 = .ok (.iload_n 2, 1) := by decide +kernel
theorem dX11_surveyBy_55 : decode cX11_surveyBy 55 = .ok (.iaload, 1) := by decide +kernel
theorem dX11_surveyBy_56 : decode cX11_surveyBy 56 = .ok (.aload_n 0, 1) := by decide +kernel
theorem dX11_surveyBy_57 : decode cX11_surveyBy 57 = .ok (.getfield 33, 3) := by decide +kernel
theorem dX11_surveyBy_60 : decode cX11_surveyBy 60 = .ok (.getfield 188, 3) := by decide +kernel
theorem dX11_surveyBy_63 : decode cX11_surveyBy 63 = .ok (.iload_n 2, 1) := by decide +kernel
theorem dX11_surveyBy_64 : decode cX11_surveyBy 64 = .ok (.iaload, 1) := by decide +kernel
theorem dX11_surveyBy_65 : decode cX11_surveyBy 65 = .ok (.aload_n 0, 1) := by decide +kernel
theorem dX11_surveyBy_66 : decode cX11_surveyBy 66 = .ok (.getfield 33, 3) := by decide +kernel
theorem dX11_surveyBy_69 : decode cX11_surveyBy 69 = .ok (.invokevirtual 441, 3) := by decide +kernel
theorem dX11_surveyBy_72 : decode cX11_surveyBy 72 = .ok (.invokevirtual 449, 3) := by decide +kernel
theorem dX11_surveyBy_75 : decode cX11_surveyBy 75 = .ok (.aload_n 0, 1) := by decide +kernel
theorem dX11_surveyBy_76 : decode cX11_surveyBy 76 = .ok (.getfield 91, 3) := by decide +kernel
theorem dX11_surveyBy_79 : decode cX11_surveyBy 79 = .ok (.iload_n 2, 1) := by decide +kernel
theorem dX11_surveyBy_80 : decode cX11_surveyBy 80 = .ok (.iload_n 3, 1) := by decide +kernel
theorem dX11_surveyBy_81 : decode cX11_surveyBy 81 = .ok (.aload_n 0, 1) := by decide +kernel
theorem dX11_surveyBy_82 : decode cX11_surveyBy 82 = .ok (.getfield 113, 3) := by decide +kernel
theorem dX11_surveyBy_85 : decode cX11_surveyBy 85 = .ok (.invokevirtual 453, 3) := by decide +kernel
theorem dX11_surveyBy_88 : decode cX11_surveyBy 88 = .ok (.iinc 2 1, 3) := by decide +kernel
theorem dX11_surveyBy_91 : decode cX11_surveyBy 91 = .ok (.goto (-82), 3) := by decide +kernel
theorem dX11_surveyBy_94 : decode cX11_surveyBy 94 = .ok (.return_, 1) := by decide +kernel
def fX11_surveyBy_L9 (x1 : Nat) : Nat → Int32 → zM → Option zM
  | 0, _, _ => none
  | n + 1, x2, M => if (M.1 5 3) ≤ x2 then (
    some M)
    else (
    (fX10_isIn 60 x2 M).bind fun (r2 : Int32) =>
    (if r2 = 0 then (
    some M)
    else (
    if zin x2 8 then (
    zlet (M.1 6 x2.toNatClampNeg) fun (x3_40 : Int32) =>
    (fX10_weekday 60 M).bind fun (r5 : Int32) =>
    (fX8_weigh x1 x3_40 (M.1 7 x2.toNatClampNeg) (M.1 63 x2.toNatClampNeg) r5 M).bind fun (M72 : zM) =>
    (fX8_offer x2 x3_40 (M72.1 0 18) M72).bind fun (M85 : zM) =>
    some M85) else none) : Option zM).bind fun (M_88 : zM) =>
    fX11_surveyBy_L9 x1 n (x2 + 1) M_88)
def fX11_surveyBy (x1 : Nat) (M : zM) : Option zM := (fX8_clear M).bind fun (M4 : zM) =>
  (fX11_surveyBy_L9 x1 4000 0 M4).bind fun (M_94 : zM) =>
  some M_94
set_option maxHeartbeats 4000000 in
theorem lX11_surveyBy_9 {E : zE} {Γ : zT} {d : Nat} {K1 : zM → Prop} (hC : Cx E Γ RX11 cX11_surveyBy 4 d) (hd : 3 ≤ d) (x1 : Nat) (hx : ∀ (M_94 : zM), K1 M_94 → G E Γ 4 94 [] [] M_94) :
    ∀ (n : Nat) (x2 : Int32) (M : zM), wpO (fX11_surveyBy_L9 x1 n x2 M) K1 → G E Γ 4 9 [(0, .ref 0), (1, .ref x1), (2, .int x2)] [] M := by
  intro n
  induction n with
  | zero =>
    intro x2 M h
    exact (wpO_0 h).elim
  | succ n ih =>
    intro x2 M h
    rw [fX11_surveyBy_L9.eq_2] at h
    refine g_iload_n (i := 2) (x := x2) hC (dX11_surveyBy_9) rfl rfl ?_
    refine g_aload_n (i := 0) (x := 0) hC (dX11_surveyBy_10) rfl rfl ?_
    refine g_getR (r := 5) hC flX11_26 (dX11_surveyBy_11) rfl rfl rfl ?_
    refine g_getI hC flX11_135 (dX11_surveyBy_14) rfl rfl ?_
    refine g_icmp_ge (tgt := 94) hC (dX11_surveyBy_17) (by decide) (fun c17 => ?_) (fun c17 => ?_)
    · have h := wpO_t c17 h
      refine g_sub (lv' := []) [] rfl ?_
      exact hx _ (wpO_s h)
    · have h := wpO_f c17 h
      refine g_aload_n (i := 0) (x := 0) hC (dX11_surveyBy_20) rfl rfl ?_
      refine g_getR (r := 60) hC flX11_33 (dX11_surveyBy_21) rfl rfl rfl ?_
      refine g_iload_n (i := 2) (x := x2) hC (dX11_surveyBy_24) rfl rfl ?_
      have h := wpO_b h
      refine g_callVi ([.int x2]) hC wvX11_316 (dX11_surveyBy_25) rfl rfl (by omega) (Nat.le_of_ble_eq_true rfl) (cX10_isIn_ok (by omega) 60 x2 M h) (fun r2 N q => ?_)
      obtain ⟨rfl, h⟩ := q
      refine wpO_bJ h (fun KJ3 hKJ3 h => ?_)
      have hJ3 : ∀ (M_88 : zM), KJ3 M_88 → G E Γ 4 88 [(0, .ref 0), (1, .ref x1), (2, .int x2)] [] M_88 := by
        intro M_88 h
        have h := hKJ3 _ h
        refine g_iinc (x := x2) (v := (x2 + 1)) (lv2 := [(2, .int (x2 + 1)), (0, .ref 0), (1, .ref x1)]) hC (dX11_surveyBy_88) rfl rfl (by decide) rfl ?_
        refine g_goto (tgt := 9) hC (dX11_surveyBy_91) (by decide) ?_
        refine g_sub (lv' := [(0, .ref 0), (1, .ref x1), (2, .int (x2 + 1))]) [1, 2, 0] rfl ?_
        exact ih _ _ h
      refine g_if_eq (tgt := 88) hC (dX11_surveyBy_28) (by decide) (fun c28 => ?_) (fun c28 => ?_)
      · have h := wpO_t c28 h
        exact hJ3 _ (wpO_s h)
      · have h := wpO_f c28 h
        refine g_aload_n (i := 0) (x := 0) hC (dX11_surveyBy_31) rfl rfl ?_
        refine g_getR (r := 5) hC flX11_26 (dX11_surveyBy_32) rfl rfl rfl ?_
        refine g_getR (r := 6) hC flX11_176 (dX11_surveyBy_35) rfl rfl rfl ?_
        refine g_iload_n (i := 2) (x := x2) hC (dX11_surveyBy_38) rfl rfl ?_
        obtain ⟨q4, h⟩ := wpO_g h
        refine g_iaload (n := 8) hC (dX11_surveyBy_39) rfl q4 ?_
        refine g_nmi (fun x3_40 e_x3_40 => ?_)
        have h := wpO_n e_x3_40 h
        refine g_istore_n (i := 3) (lv2 := [(3, .int x3_40), (0, .ref 0), (1, .ref x1), (2, .int x2)]) hC (dX11_surveyBy_40) rfl (by decide) rfl ?_
        refine g_aload_n (i := 0) (x := 0) hC (dX11_surveyBy_41) rfl rfl ?_
        refine g_getR (r := 30) hC flX11_91 (dX11_surveyBy_42) rfl rfl rfl ?_
        refine g_aload_n (i := 1) (x := x1) hC (dX11_surveyBy_45) rfl rfl ?_
        refine g_iload_n (i := 3) (x := x3_40) hC (dX11_surveyBy_46) rfl rfl ?_
        refine g_aload_n (i := 0) (x := 0) hC (dX11_surveyBy_47) rfl rfl ?_
        refine g_getR (r := 5) hC flX11_26 (dX11_surveyBy_48) rfl rfl rfl ?_
        refine g_getR (r := 7) hC flX11_179 (dX11_surveyBy_51) rfl rfl rfl ?_
        refine g_iload_n (i := 2) (x := x2) hC (dX11_surveyBy_54) rfl rfl ?_
        refine g_iaload (n := 8) hC (dX11_surveyBy_55) rfl q4 ?_
        refine g_aload_n (i := 0) (x := 0) hC (dX11_surveyBy_56) rfl rfl ?_
        refine g_getR (r := 60) hC flX11_33 (dX11_surveyBy_57) rfl rfl rfl ?_
        refine g_getR (r := 63) hC flX11_188 (dX11_surveyBy_60) rfl rfl rfl ?_
        refine g_iload_n (i := 2) (x := x2) hC (dX11_surveyBy_63) rfl rfl ?_
        refine g_iaload (n := 8) hC (dX11_surveyBy_64) rfl q4 ?_
        refine g_aload_n (i := 0) (x := 0) hC (dX11_surveyBy_65) rfl rfl ?_
        refine g_getR (r := 60) hC flX11_33 (dX11_surveyBy_66) rfl rfl rfl ?_
        have h := wpO_b h
        refine g_callVi ([]) hC wvX11_441 (dX11_surveyBy_69) rfl rfl (by omega) (Nat.le_of_ble_eq_true rfl) (cX10_weekday_ok (by omega) 60 M h) (fun r5 N q => ?_)
        obtain ⟨rfl, h⟩ := q
        have h := wpO_b h
        refine g_callVv ([.ref x1, .int x3_40, .int (M.1 7 x2.toNatClampNeg), .int (M.1 63 x2.toNatClampNeg), .int r5]) hC wvX11_449 (dX11_surveyBy_72) rfl rfl (by omega) (Nat.le_of_ble_eq_true rfl) (cX8_weigh_ok (by omega) x1 x3_40 (M.1 7 x2.toNatClampNeg) (M.1 63 x2.toNatClampNeg) r5 M h) (fun M72 h => ?_)
        refine g_aload_n (i := 0) (x := 0) hC (dX11_surveyBy_75) rfl rfl ?_
        refine g_getR (r := 30) hC flX11_91 (dX11_surveyBy_76) rfl rfl rfl ?_
        refine g_iload_n (i := 2) (x := x2) hC (dX11_surveyBy_79) rfl rfl ?_
        refine g_iload_n (i := 3) (x := x3_40) hC (dX11_surveyBy_80) rfl rfl ?_
        refine g_aload_n (i := 0) (x := 0) hC (dX11_surveyBy_81) rfl rfl ?_
        refine g_getI hC flX11_113 (dX11_surveyBy_82) rfl rfl ?_
        have h := wpO_b h
        refine g_callVv ([.int x2, .int x3_40, .int (M72.1 0 18)]) hC wvX11_453 (dX11_surveyBy_85) rfl rfl (by omega) (Nat.le_of_ble_eq_true rfl) (cX8_offer_ok (by omega) x2 x3_40 (M72.1 0 18) M72 h) (fun M85 h => ?_)
        refine g_sub (lv' := [(0, .ref 0), (1, .ref x1), (2, .int x2)]) [1, 2, 3] rfl ?_
        exact hJ3 _ (wpO_s h)
set_option maxHeartbeats 4000000 in
theorem cX11_surveyBy_ok {E : zE} {d : Nat} (hd : 3 ≤ d) (x1 : Nat) (M : zM) {K : zM → Prop} (h : wpO (fX11_surveyBy x1 M) K) : CMv E d yX11_surveyBy cX11_surveyBy 4 (none) [.ref 0, .ref x1] M K := by
  refine CMv.of (by decide) (Nat.le_of_ble_eq_true rfl) (fun Γ hC hr => ?_)
  have hC : Cx E Γ RX11 cX11_surveyBy 4 d := hC
  show G E Γ 4 0 [(0, .ref 0), (1, .ref x1)] [] M
  unfold fX11_surveyBy at h
  refine g_aload_n (i := 0) (x := 0) hC (dX11_surveyBy_0) rfl rfl ?_
  refine g_getR (r := 30) hC flX11_91 (dX11_surveyBy_1) rfl rfl rfl ?_
  have h := wpO_b h
  refine g_callVv ([]) hC wvX11_448 (dX11_surveyBy_4) rfl rfl (by omega) (Nat.le_of_ble_eq_true rfl) (cX8_clear_ok (by omega) M h) (fun M4 h => ?_)
  refine g_iconst (v := 0) hC (dX11_surveyBy_7) kc_0 ?_
  refine g_istore_n (i := 2) (lv2 := [(2, .int 0), (0, .ref 0), (1, .ref x1)]) hC (dX11_surveyBy_8) rfl (by decide) rfl ?_
  refine g_sub (lv' := [(0, .ref 0), (1, .ref x1), (2, .int 0)]) [1, 2, 0] rfl ?_
  refine wpO_bJ h (fun KL9 hKL9 h => ?_)
  refine lX11_surveyBy_9 (K1 := KL9) hC (by omega) x1 (fun M_94 h => ?_) _ _ _ h
  have h := hKL9 _ h
  refine g_vreturn hC hr (dX11_surveyBy_94) ?_
  exact wpO_s h
/-! LostByState.fewest(I)I -/
theorem dX11_fewest_0 : decode cX11_fewest 0 = .ok (.aload_n 0, 1) := by decide +kernel
theorem dX11_fewest_1 : decode cX11_fewest 1 = .ok (.iload_n 1, 1) := by decide +kernel
theorem dX11_fewest_2 : decode cX11_fewest 2 = .ok (.invokevirtual 166, 3) := by decide +kernel
theorem dX11_fewest_5 : decode cX11_fewest 5 = .ok (.ifCond .ne 5, 3) := by decide +kernel
theorem dX11_fewest_8 : decode cX11_fewest 8 = .ok (.iconst (-1), 1) := by decide +kernel
theorem dX11_fewest_9 : decode cX11_fewest 9 = .ok (.ireturn, 1) := by decide +kernel
theorem dX11_fewest_10 : decode cX11_fewest 10 = .ok (.aload_n 0, 1) := by decide +kernel
theorem dX11_fewest_11 : decode cX11_fewest 11 = .ok (.aload_n 0, 1) := by decide +kernel
theorem dX11_fewest_12 : decode cX11_fewest 12 = .ok (.getfield 58, 3) := by decide +kernel
theorem dX11_fewest_15 : decode cX11_fewest 15 = .ok (.invokevirtual 286, 3) := by decide +kernel
theorem dX11_fewest_18 : decode cX11_fewest 18 = .ok (.iconst (-1), 1) := by decide +kernel
theorem dX11_fewest_19 : decode cX11_fewest 19 = .ok (.istore_n 2, 1) := by decide +kernel
theorem dX11_fewest_20 : decode cX11_fewest 20 = .ok (.bipush 9, 2) := by decide +kernel
theorem dX11_fewest_22 : decode cX11_fewest 22 = .ok (.istore_n 3, 1) := by decide +kernel
theorem dX11_fewest_23 : decode cX11_fewest 23 = .ok (.iconst 0, 1) := by decide +kernel
theorem dX11_fewest_24 : decode cX11_fewest 24 = .ok (.istore 4, 2) := by decide +kernel
theorem dX11_fewest_26 : decode cX11_fewest 26 = .ok (.iload 4, 2) := by decide +kernel
theorem dX11_fewest_28 : decode cX11_fewest 28 = .ok (.sipush 256, 3) := by decide +kernel
theorem dX11_fewest_31 : decode cX11_fewest 31 = .ok (.if_icmp .ge 42, 3) := by decide +kernel
theorem dX11_fewest_34 : decode cX11_fewest 34 = .ok (.iload 4, 2) := by decide +kernel
theorem dX11_fewest_36 : decode cX11_fewest 36 = .ok (.invokestatic 240, 3) := by decide +kernel
theorem dX11_fewest_39 : decode cX11_fewest 39 = .ok (.istore 5, 2) := by decide +kernel
theorem dX11_fewest_41 : decode cX11_fewest 41 = .ok (.iload 5, 2) := by decide +kernel
theorem dX11_fewest_43 : decode cX11_fewest 43 = .ok (.iload_n 3, 1) := by decide +kernel
theorem dX11_fewest_44 : decode cX11_fewest 44 = .ok (.if_icmp .ge 23, 3) := by decide +kernel
theorem dX11_fewest_47 : decode cX11_fewest 47 = .ok (.aload_n 0, 1) := by decide +kernel
theorem dX11_fewest_48 : decode cX11_fewest 48 = .ok (.getfield 91, 3) := by decide +kernel
theorem dX11_fewest_51 : decode cX11_fewest 51 = .ok (.getfield 289, 3) := by decide +kernel
theorem dX11_fewest_54 : decode cX11_fewest 54 = .ok (.iload 4, 2) := by decide +kernel
theorem dX11_fewest_56 : decode cX11_fewest 56 = .ok (.iaload, 1) := by decide +kernel
theorem dX11_fewest_57 : decode cX11_fewest 57 = .ok (.iload_n 1, 1) := by decide +kernel
theorem dX11_fewest_58 : decode cX11_fewest 58 = .ok (.if_icmp .ne 9, 3) := by decide +kernel
theorem dX11_fewest_61 : decode cX11_fewest 61 = .ok (.iload 4, 2) := by decide +kernel
theorem dX11_fewest_63 : decode cX11_fewest 63 = .ok (.istore_n 2, 1) := by decide +kernel
theorem dX11_fewest_64 : decode cX11_fewest 64 = .ok (.iload 5, 2) := by decide +kernel
theorem dX11_fewest_66 : decode cX11_fewest 66 = .ok (.istore_n 3, 1) := by decide +kernel
theorem dX11_fewest_67 : decode cX11_fewest 67 = .ok (.iinc 4 1, 3) := by decide +kernel
theorem dX11_fewest_70 : decode cX11_fewest 70 = .ok (.goto (-44), 3) := by decide +kernel
theorem dX11_fewest_73 : decode cX11_fewest 73 = .ok (.iload_n 2, 1) := by decide +kernel
theorem dX11_fewest_74 : decode cX11_fewest 74 = .ok (.ifCond .ge 6, 3) := by decide +kernel
theorem dX11_fewest_77 : decode cX11_fewest 77 = .ok (.bipush (-2), 2) := by decide +kernel
theorem dX11_fewest_79 : decode cX11_fewest 79 = .ok (.ireturn, 1) := by decide +kernel
theorem dX11_fewest_80 : decode cX11_fewest 80 = .ok (.aload_n 0, 1) := by decide +kernel
theorem dX11_fewest_81 : decode cX11_fewest 81 = .ok (.getfield 19, 3) := by decide +kernel
theorem dX11_fewest_84 : decode cX11_fewest 84 = .ok (.invokevirtual 230, 3) := by decide +kernel
theorem dX11_fewest_87 : decode cX11_fewest 87 = .ok (.aload_n 0, 1) := by decide +kernel
theorem dX11_fewest_88 : decode cX11_fewest 88 = .ok (.getfield 19, 3) := by decide +kernel
theorem dX11_fewest_91 : decode cX11_fewest 91 = .ok (.iload_n 2, 1) := by decide +kernel
theorem dX11_fewest_92 : decode cX11_fewest 92 = .ok (.i2l, 1) := by decide +kernel
theorem dX11_fewest_93 : decode cX11_fewest 93 = .ok (.invokevirtual 233, 3) := by decide +kernel
theorem dX11_fewest_96 : decode cX11_fewest 96 = .ok (.iload_n 3, 1) := by decide +kernel
theorem dX11_fewest_97 : decode cX11_fewest 97 = .ok (.ireturn, 1) := by decide +kernel
def fX11_fewest_L26 (x1 : Int32) (M : zM) : Nat → Int32 → Int32 → Int32 → Option (Int32 × Int32)
  | 0, _, _, _ => none
  | n + 1, x2, x3, x4 => if 256 ≤ x4 then (
    some (x2, x3))
    else (
    zlet (fJ6_bitCount_0f7a4 x4) fun (x5_39 : Int32) =>
    (if x3 ≤ x5_39 then (
    some (x2, x3))
    else (
    if zin x4 256 then (
    if (M.1 31 x4.toNatClampNeg) = x1 then (
    some (x4, x5_39))
    else (
    some (x2, x3))) else none) : Option (Int32 × Int32)).bind fun (q : Int32 × Int32) => zp q fun x2_67 x3_67 =>
    fX11_fewest_L26 x1 M n x2_67 x3_67 (x4 + 1))
def fX11_fewest (x1 : Int32) (M : zM) : Option (Int32 × zM) := if (fX11_isThing x1 M) = 0 then (
  some ((-1), M))
  else (
  (fX11_surveyBy 13 M).bind fun (M15 : zM) =>
  (fX11_fewest_L26 x1 M15 4000 (-1) 9 0).bind fun (q : Int32 × Int32) => zp q fun x2_73 x3_73 =>
  if 0 ≤ x2_73 then (
  zlet (fX3_begin M15) fun (M84 : zM) =>
  (fX3_tell x2_73.toInt64 M84).bind fun (M93 : zM) =>
  some (x3_73, M93))
  else (
  some ((-2), M15)))
set_option maxHeartbeats 4000000 in
theorem lX11_fewest_26 {E : zE} {Γ : zT} {d : Nat} {K1 : (Int32 × Int32) → Prop} (hC : Cx E Γ RX11 cX11_fewest 6 d) (hd : 4 ≤ d) (x1 : Int32) (M : zM) (hx : ∀ (x2_73 : Int32) (x3_73 : Int32), K1 (x2_73, x3_73) → G E Γ 6 73 [(0, .ref 0), (2, .int x2_73), (3, .int x3_73)] [] M) :
    ∀ (n : Nat) (x2 : Int32) (x3 : Int32) (x4 : Int32), wpO (fX11_fewest_L26 x1 M n x2 x3 x4) K1 → G E Γ 6 26 [(0, .ref 0), (1, .int x1), (2, .int x2), (3, .int x3), (4, .int x4)] [] M := by
  intro n
  induction n with
  | zero =>
    intro x2 x3 x4 h
    exact (wpO_0 h).elim
  | succ n ih =>
    intro x2 x3 x4 h
    rw [fX11_fewest_L26.eq_2] at h
    refine g_iload (i := 4) (x := x4) hC (dX11_fewest_26) rfl ?_
    refine g_sipush (v := 256) hC (dX11_fewest_28) ks_256 ?_
    refine g_icmp_ge (tgt := 73) hC (dX11_fewest_31) (by decide) (fun c31 => ?_) (fun c31 => ?_)
    · have h := wpO_t c31 h
      refine g_sub (lv' := [(0, .ref 0), (2, .int x2), (3, .int x3)]) [0, 2, 3] rfl ?_
      exact hx _ _ (wpO_s h)
    · have h := wpO_f c31 h
      refine g_iload (i := 4) (x := x4) hC (dX11_fewest_34) rfl ?_
      refine g_callSi ([.int x4]) hC wsX11_240 (dX11_fewest_36) rfl (by omega) (Nat.le_of_ble_eq_true rfl) (cJ6_bitCount_0f7a4_ok (by omega) x4 M (K := fun r => r = fJ6_bitCount_0f7a4 x4) rfl) (fun r N q => ?_)
      obtain ⟨rfl, rfl⟩ := q
      refine g_nmi (fun x5_39 e_x5_39 => ?_)
      have h := wpO_n e_x5_39 h
      refine g_istore (i := 5) (lv2 := [(5, .int x5_39), (0, .ref 0), (1, .int x1), (2, .int x2), (3, .int x3), (4, .int x4)]) hC (dX11_fewest_39) (by decide) rfl ?_
      refine g_iload (i := 5) (x := x5_39) hC (dX11_fewest_41) rfl ?_
      refine g_iload_n (i := 3) (x := x3) hC (dX11_fewest_43) rfl rfl ?_
      refine wpO_bJ h (fun KJ4 hKJ4 h => ?_)
      have hJ4 : ∀ (x2_67 : Int32) (x3_67 : Int32), KJ4 (x2_67, x3_67) → G E Γ 6 67 [(0, .ref 0), (1, .int x1), (2, .int x2_67), (3, .int x3_67), (4, .int x4)] [] M := by
        intro x2_67 x3_67 h
        have h := hKJ4 _ h
        have h := wpO_p h
        refine g_iinc (x := x4) (v := (x4 + 1)) (lv2 := [(4, .int (x4 + 1)), (0, .ref 0), (1, .int x1), (2, .int x2_67), (3, .int x3_67)]) hC (dX11_fewest_67) rfl rfl (by decide) rfl ?_
        refine g_goto (tgt := 26) hC (dX11_fewest_70) (by decide) ?_
        refine g_sub (lv' := [(0, .ref 0), (1, .int x1), (2, .int x2_67), (3, .int x3_67), (4, .int (x4 + 1))]) [1, 2, 3, 4, 0] rfl ?_
        exact ih _ _ _ h
      refine g_icmp_ge (tgt := 67) hC (dX11_fewest_44) (by decide) (fun c44 => ?_) (fun c44 => ?_)
      · have h := wpO_t c44 h
        refine g_sub (lv' := [(0, .ref 0), (1, .int x1), (2, .int x2), (3, .int x3), (4, .int x4)]) [1, 2, 3, 4, 5] rfl ?_
        exact hJ4 _ _ (wpO_s h)
      · have h := wpO_f c44 h
        refine g_aload_n (i := 0) (x := 0) hC (dX11_fewest_47) rfl rfl ?_
        refine g_getR (r := 30) hC flX11_91 (dX11_fewest_48) rfl rfl rfl ?_
        refine g_getR (r := 31) hC flX11_289 (dX11_fewest_51) rfl rfl rfl ?_
        refine g_iload (i := 4) (x := x4) hC (dX11_fewest_54) rfl ?_
        obtain ⟨q5, h⟩ := wpO_g h
        refine g_iaload (n := 256) hC (dX11_fewest_56) rfl q5 ?_
        refine g_iload_n (i := 1) (x := x1) hC (dX11_fewest_57) rfl rfl ?_
        refine g_icmp_ne (tgt := 67) hC (dX11_fewest_58) (by decide) (fun c58 => ?_) (fun c58 => ?_)
        · have h := wpO_f c58 h
          refine g_sub (lv' := [(0, .ref 0), (1, .int x1), (2, .int x2), (3, .int x3), (4, .int x4)]) [1, 2, 3, 4, 5] rfl ?_
          exact hJ4 _ _ (wpO_s h)
        · have h := wpO_t c58 h
          refine g_iload (i := 4) (x := x4) hC (dX11_fewest_61) rfl ?_
          refine g_istore_n (i := 2) (lv2 := [(2, .int x4), (5, .int x5_39), (0, .ref 0), (1, .int x1), (3, .int x3), (4, .int x4)]) hC (dX11_fewest_63) rfl (by decide) rfl ?_
          refine g_iload (i := 5) (x := x5_39) hC (dX11_fewest_64) rfl ?_
          refine g_istore_n (i := 3) (lv2 := [(3, .int x5_39), (2, .int x4), (5, .int x5_39), (0, .ref 0), (1, .int x1), (4, .int x4)]) hC (dX11_fewest_66) rfl (by decide) rfl ?_
          refine g_sub (lv' := [(0, .ref 0), (1, .int x1), (2, .int x4), (3, .int x5_39), (4, .int x4)]) [3, 4, 1, 0, 5] rfl ?_
          exact hJ4 _ _ (wpO_s h)
set_option maxHeartbeats 4000000 in
theorem cX11_fewest_ok {E : zE} {d : Nat} (hd : 4 ≤ d) (x1 : Int32) (M : zM) {K : (Int32 × zM) → Prop} (h : wpO (fX11_fewest x1 M) K) : CMi E d yX11_fewest cX11_fewest 6 (some .int) [.ref 0, .int x1] M (fun r N => K (r, N)) := by
  refine CMi.of (by decide) (Nat.le_of_ble_eq_true rfl) (fun Γ hC hr => ?_)
  have hC : Cx E Γ RX11 cX11_fewest 6 d := hC
  show G E Γ 6 0 [(0, .ref 0), (1, .int x1)] [] M
  unfold fX11_fewest at h
  refine g_aload_n (i := 0) (x := 0) hC (dX11_fewest_0) rfl rfl ?_
  refine g_iload_n (i := 1) (x := x1) hC (dX11_fewest_1) rfl rfl ?_
  refine g_callVi ([.int x1]) hC wvX11_166 (dX11_fewest_2) rfl rfl (by omega) (Nat.le_of_ble_eq_true rfl) (cX11_isThing_ok (by omega) x1 M (K := fun r => r = fX11_isThing x1 M) rfl) (fun r N q => ?_)
  obtain ⟨rfl, rfl⟩ := q
  refine g_if_ne (tgt := 10) hC (dX11_fewest_5) (by decide) (fun c5 => ?_) (fun c5 => ?_)
  · have h := wpO_f c5 h
    refine g_aload_n (i := 0) (x := 0) hC (dX11_fewest_10) rfl rfl ?_
    refine g_aload_n (i := 0) (x := 0) hC (dX11_fewest_11) rfl rfl ?_
    refine g_getR (r := 13) hC flX11_58 (dX11_fewest_12) rfl rfl rfl ?_
    have h := wpO_b h
    refine g_callVv ([.ref 13]) hC wvX11_286 (dX11_fewest_15) rfl rfl (by omega) (Nat.le_of_ble_eq_true rfl) (cX11_surveyBy_ok (by omega) 13 M h) (fun M15 h => ?_)
    refine g_iconst (v := (-1)) hC (dX11_fewest_18) kc_m1 ?_
    refine g_istore_n (i := 2) (lv2 := [(2, .int (-1)), (0, .ref 0), (1, .int x1)]) hC (dX11_fewest_19) rfl (by decide) rfl ?_
    refine g_bipush (v := 9) hC (dX11_fewest_20) kb_9 ?_
    refine g_istore_n (i := 3) (lv2 := [(3, .int 9), (2, .int (-1)), (0, .ref 0), (1, .int x1)]) hC (dX11_fewest_22) rfl (by decide) rfl ?_
    refine g_iconst (v := 0) hC (dX11_fewest_23) kc_0 ?_
    refine g_istore (i := 4) (lv2 := [(4, .int 0), (3, .int 9), (2, .int (-1)), (0, .ref 0), (1, .int x1)]) hC (dX11_fewest_24) (by decide) rfl ?_
    refine g_sub (lv' := [(0, .ref 0), (1, .int x1), (2, .int (-1)), (3, .int 9), (4, .int 0)]) [3, 4, 2, 1, 0] rfl ?_
    refine wpO_bJ h (fun KL26 hKL26 h => ?_)
    refine lX11_fewest_26 (K1 := KL26) hC (by omega) x1 M15 (fun x2_73 x3_73 h => ?_) _ _ _ _ h
    have h := hKL26 _ h
    have h := wpO_p h
    refine g_iload_n (i := 2) (x := x2_73) hC (dX11_fewest_73) rfl rfl ?_
    refine g_if_ge (tgt := 80) hC (dX11_fewest_74) (by decide) (fun c74 => ?_) (fun c74 => ?_)
    · have h := wpO_t c74 h
      refine g_aload_n (i := 0) (x := 0) hC (dX11_fewest_80) rfl rfl ?_
      refine g_getR (r := 3) hC flX11_19 (dX11_fewest_81) rfl rfl rfl ?_
      refine g_callVv ([]) hC wvX11_230 (dX11_fewest_84) rfl rfl (by omega) (Nat.le_of_ble_eq_true rfl) (cX3_begin_ok (by omega) M15 (K := fun r => r = fX3_begin M15) rfl) (fun N q => ?_)
      subst q
      refine g_nmM (fun M84 e_M84 => ?_)
      have h := wpO_n e_M84 h
      refine g_aload_n (i := 0) (x := 0) hC (dX11_fewest_87) rfl rfl ?_
      refine g_getR (r := 3) hC flX11_19 (dX11_fewest_88) rfl rfl rfl ?_
      refine g_iload_n (i := 2) (x := x2_73) hC (dX11_fewest_91) rfl rfl ?_
      refine g_i2l hC (dX11_fewest_92) ?_
      have h := wpO_b h
      refine g_callVv ([.long x2_73.toInt64]) hC wvX11_233 (dX11_fewest_93) rfl rfl (by omega) (Nat.le_of_ble_eq_true rfl) (cX3_tell_ok (by omega) x2_73.toInt64 M84 h) (fun M93 h => ?_)
      refine g_iload_n (i := 3) (x := x3_73) hC (dX11_fewest_96) rfl rfl ?_
      refine g_ireturn hC hr (dX11_fewest_97) ?_
      exact wpO_s h
    · have h := wpO_f c74 h
      refine g_bipush (v := (-2)) hC (dX11_fewest_77) kb_m2 ?_
      refine g_ireturn hC hr (dX11_fewest_79) ?_
      exact wpO_s h
  · have h := wpO_t c5 h
    refine g_iconst (v := (-1)) hC (dX11_fewest_8) kc_m1 ?_
    refine g_ireturn hC hr (dX11_fewest_9) ?_
    exact wpO_s h
/-! LostByState.ways(I)I -/
theorem dX11_ways_0 : decode cX11_ways 0 = .ok (.aload_n 0, 1) := by decide +kernel
theorem dX11_ways_1 : decode cX11_ways 1 = .ok (.iload_n 1, 1) := by decide +kernel
theorem dX11_ways_2 : decode cX11_ways 2 = .ok (.invokevirtual 166, 3) := by decide +kernel
theorem dX11_ways_5 : decode cX11_ways 5 = .ok (.ifCond .ne 5, 3) := by decide +kernel
theorem dX11_ways_8 : decode cX11_ways 8 = .ok (.iconst (-1), 1) := by decide +kernel
theorem dX11_ways_9 : decode cX11_ways 9 = .ok (.ireturn, 1) := by decide +kernel
theorem dX11_ways_10 : decode cX11_ways 10 = .ok (.aload_n 0, 1) := by decide +kernel
theorem dX11_ways_11 : decode cX11_ways 11 = .ok (.aload_n 0, 1) := by decide +kernel
theorem dX11_ways_12 : decode cX11_ways 12 = .ok (.getfield 58, 3) := by decide +kernel
theorem dX11_ways_15 : decode cX11_ways 15 = .ok (.invokevirtual 286, 3) := by decide +kernel
theorem dX11_ways_18 : decode cX11_ways 18 = .ok (.aload_n 0, 1) := by decide +kernel
theorem dX11_ways_19 : decode cX11_ways 19 = .ok (.getfield 19, 3) := by decide +kernel
theorem dX11_ways_22 : decode cX11_ways 22 = .ok (.invokevirtual 230, 3) := by decide +kernel
theorem dX11_ways_25 : decode cX11_ways 25 = .ok (.aload_n 0, 1) := by decide +kernel
theorem dX11_ways_26 : decode cX11_ways 26 = .ok (.getfield 19, 3) := by decide +kernel
theorem dX11_ways_29 : decode cX11_ways 29 = .ok (.aload_n 0, 1) := by decide +kernel
theorem dX11_ways_30 : decode cX11_ways 30 = .ok (.getfield 91, 3) := by decide +kernel
theorem dX11_ways_33 : decode cX11_ways 33 = .ok (.iconst (-1), 1) := by decide +kernel
theorem dX11_ways_34 : decode cX11_ways 34 = .ok (.invokevirtual 292, 3) := by decide +kernel
theorem dX11_ways_37 : decode cX11_ways 37 = .ok (.i2l, 1) := by decide +kernel
theorem dX11_ways_38 : decode cX11_ways 38 = .ok (.invokevirtual 233, 3) := by decide +kernel
theorem dX11_ways_41 : decode cX11_ways 41 = .ok (.aload_n 0, 1) := by decide +kernel
theorem dX11_ways_42 : decode cX11_ways 42 = .ok (.getfield 91, 3) := by decide +kernel
theorem dX11_ways_45 : decode cX11_ways 45 = .ok (.iload_n 1, 1) := by decide +kernel
theorem dX11_ways_46 : decode cX11_ways 46 = .ok (.invokevirtual 292, 3) := by decide +kernel
theorem dX11_ways_49 : decode cX11_ways 49 = .ok (.ireturn, 1) := by decide +kernel
def fX11_ways (x1 : Int32) (M : zM) : Option (Int32 × zM) := if (fX11_isThing x1 M) = 0 then (
  some ((-1), M))
  else (
  (fX11_surveyBy 13 M).bind fun (M15 : zM) =>
  zlet (fX3_begin M15) fun (M22 : zM) =>
  (fX8_howManyGet (-1) M22).bind fun (r4 : Int32) =>
  (fX3_tell r4.toInt64 M22).bind fun (M38 : zM) =>
  (fX8_howManyGet x1 M38).bind fun (r6 : Int32) =>
  some (r6, M38))
set_option maxHeartbeats 4000000 in
theorem cX11_ways_ok {E : zE} {d : Nat} (hd : 4 ≤ d) (x1 : Int32) (M : zM) {K : (Int32 × zM) → Prop} (h : wpO (fX11_ways x1 M) K) : CMi E d yX11_ways cX11_ways 2 (some .int) [.ref 0, .int x1] M (fun r N => K (r, N)) := by
  refine CMi.of (by decide) (Nat.le_of_ble_eq_true rfl) (fun Γ hC hr => ?_)
  have hC : Cx E Γ RX11 cX11_ways 2 d := hC
  show G E Γ 2 0 [(0, .ref 0), (1, .int x1)] [] M
  unfold fX11_ways at h
  refine g_aload_n (i := 0) (x := 0) hC (dX11_ways_0) rfl rfl ?_
  refine g_iload_n (i := 1) (x := x1) hC (dX11_ways_1) rfl rfl ?_
  refine g_callVi ([.int x1]) hC wvX11_166 (dX11_ways_2) rfl rfl (by omega) (Nat.le_of_ble_eq_true rfl) (cX11_isThing_ok (by omega) x1 M (K := fun r => r = fX11_isThing x1 M) rfl) (fun r N q => ?_)
  obtain ⟨rfl, rfl⟩ := q
  refine g_if_ne (tgt := 10) hC (dX11_ways_5) (by decide) (fun c5 => ?_) (fun c5 => ?_)
  · have h := wpO_f c5 h
    refine g_aload_n (i := 0) (x := 0) hC (dX11_ways_10) rfl rfl ?_
    refine g_aload_n (i := 0) (x := 0) hC (dX11_ways_11) rfl rfl ?_
    refine g_getR (r := 13) hC flX11_58 (dX11_ways_12) rfl rfl rfl ?_
    have h := wpO_b h
    refine g_callVv ([.ref 13]) hC wvX11_286 (dX11_ways_15) rfl rfl (by omega) (Nat.le_of_ble_eq_true rfl) (cX11_surveyBy_ok (by omega) 13 M h) (fun M15 h => ?_)
    refine g_aload_n (i := 0) (x := 0) hC (dX11_ways_18) rfl rfl ?_
    refine g_getR (r := 3) hC flX11_19 (dX11_ways_19) rfl rfl rfl ?_
    refine g_callVv ([]) hC wvX11_230 (dX11_ways_22) rfl rfl (by omega) (Nat.le_of_ble_eq_true rfl) (cX3_begin_ok (by omega) M15 (K := fun r => r = fX3_begin M15) rfl) (fun N q => ?_)
    subst q
    refine g_nmM (fun M22 e_M22 => ?_)
    have h := wpO_n e_M22 h
    refine g_aload_n (i := 0) (x := 0) hC (dX11_ways_25) rfl rfl ?_
    refine g_getR (r := 3) hC flX11_19 (dX11_ways_26) rfl rfl rfl ?_
    refine g_aload_n (i := 0) (x := 0) hC (dX11_ways_29) rfl rfl ?_
    refine g_getR (r := 30) hC flX11_91 (dX11_ways_30) rfl rfl rfl ?_
    refine g_iconst (v := (-1)) hC (dX11_ways_33) kc_m1 ?_
    have h := wpO_b h
    refine g_callVi ([.int (-1)]) hC wvX11_292 (dX11_ways_34) rfl rfl (by omega) (Nat.le_of_ble_eq_true rfl) (cX8_howManyGet_ok (by omega) (-1) M22 h) (fun r4 N q => ?_)
    obtain ⟨rfl, h⟩ := q
    refine g_i2l hC (dX11_ways_37) ?_
    have h := wpO_b h
    refine g_callVv ([.long r4.toInt64]) hC wvX11_233 (dX11_ways_38) rfl rfl (by omega) (Nat.le_of_ble_eq_true rfl) (cX3_tell_ok (by omega) r4.toInt64 M22 h) (fun M38 h => ?_)
    refine g_aload_n (i := 0) (x := 0) hC (dX11_ways_41) rfl rfl ?_
    refine g_getR (r := 30) hC flX11_91 (dX11_ways_42) rfl rfl rfl ?_
    refine g_iload_n (i := 1) (x := x1) hC (dX11_ways_45) rfl rfl ?_
    have h := wpO_b h
    refine g_callVi ([.int x1]) hC wvX11_292 (dX11_ways_46) rfl rfl (by omega) (Nat.le_of_ble_eq_true rfl) (cX8_howManyGet_ok (by omega) x1 M38 h) (fun r6 N q => ?_)
    obtain ⟨rfl, h⟩ := q
    refine g_ireturn hC hr (dX11_ways_49) ?_
    exact wpO_s h
  · have h := wpO_t c5 h
    refine g_iconst (v := (-1)) hC (dX11_ways_8) kc_m1 ?_
    refine g_ireturn hC hr (dX11_ways_9) ?_
    exact wpO_s h
/-! LostByState.tellShares(II)V -/
theorem dX11_tellShares_0 : decode cX11_tellShares 0 = .ok (.aload_n 0, 1) := by decide +kernel
theorem dX11_tellShares_1 : decode cX11_tellShares 1 = .ok (.getfield 19, 3) := by decide +kernel
theorem dX11_tellShares_4 : decode cX11_tellShares 4 = .ok (.invokevirtual 230, 3) := by decide +kernel
theorem dX11_tellShares_7 : decode cX11_tellShares 7 = .ok (.iconst 0, 1) := by decide +kernel
theorem dX11_tellShares_8 : decode cX11_tellShares 8 = .ok (.istore_n 3, 1) := by decide +kernel
theorem dX11_tellShares_9 : decode cX11_tellShares 9 = .ok (.iconst 0, 1) := by decide +kernel
theorem dX11_tellShares_10 : decode cX11_tellShares 10 = .ok (.istore 4, 2) := by decide +kernel
theorem dX11_tellShares_12 : decode cX11_tellShares 12 = .ok (.iload 4, 2) := by decide +kernel
theorem dX11_tellShares_14 : decode cX11_tellShares 14 = .ok (.iload_n 1, 1) := by decide +kernel
theorem dX11_tellShares_15 : decode cX11_tellShares 15 = .ok (.if_icmp .ge 44, 3) := by decide +kernel
theorem dX11_tellShares_18 : decode cX11_tellShares 18 = .ok (.aload_n 0, 1) := by decide +kernel
theorem dX11_tellShares_19 : decode cX11_tellShares 19 = .ok (.getfield 84, 3) := by decide +kernel
theorem dX11_tellShares_22 : decode cX11_tellShares 22 = .ok (.iload 4, 2) := by decide +kernel
theorem dX11_tellShares_24 : decode cX11_tellShares 24 = .ok (.iload_n 3, 1) := by decide +kernel
theorem dX11_tellShares_25 : decode cX11_tellShares 25 = .ok (.iload_n 2, 1) := by decide +kernel
theorem dX11_tellShares_26 : decode cX11_tellShares 26 = .ok (.invokevirtual 457, 3) := by decide +kernel
theorem dX11_tellShares_29 : decode cX11_tellShares 29 = .ok (.istore 5, 2) := by decide +kernel
theorem dX11_tellShares_31 : decode cX11_tellShares 31 = .ok (.aload_n 0, 1) := by decide +kernel
theorem dX11_tellShares_32 : decode cX11_tellShares 32 = .ok (.getfield 19, 3) := by decide +kernel
theorem dX11_tellShares_35 : decode cX11_tellShares 35 = .ok (.iload 5, 2) := by decide +kernel
theorem dX11_tellShares_37 : decode cX11_tellShares 37 = .ok (.i2l, 1) := by decide +kernel
theorem dX11_tellShares_38 : decode cX11_tellShares 38 = .ok (.invokevirtual 233, 3) := by decide +kernel
theorem dX11_tellShares_41 : decode cX11_tellShares 41 = .ok (.iload 5, 2) := by decide +kernel
theorem dX11_tellShares_43 : decode cX11_tellShares 43 = .ok (.ifCond .lt 10, 3) := by decide +kernel
theorem dX11_tellShares_46 : decode cX11_tellShares 46 = .ok (.iload_n 3, 1) := by decide +kernel
theorem dX11_tellShares_47 : decode cX11_tellShares 47 = .ok (.iconst 1, 1) := by decide +kernel
theorem dX11_tellShares_48 : decode cX11_tellShares 48 = .ok (.iload 5, 2) := by decide +kernel
theorem dX11_tellShares_50 : decode cX11_tellShares 50 = .ok (.ishl, 1) := by decide +kernel
theorem dX11_tellShares_51 : decode cX11_tellShares 51 = .ok (.ior, 1) := by decide +kernel
theorem dX11_tellShares_52 : decode cX11_tellShares 52 = .ok (.istore_n 3, 1) := by decide +kernel
theorem dX11_tellShares_53 : decode cX11_tellShares 53 = .ok (.iinc 4 1, 3) := by decide +kernel
theorem dX11_tellShares_56 : decode cX11_tellShares 56 = .ok (.goto (-44), 3) := by decide +kernel
theorem dX11_tellShares_59 : decode cX11_tellShares 59 = .ok (.return_, 1) := by decide +kernel
def fX11_tellShares_L12 (x1 : Int32) (x2 : Int32) : Nat → Int32 → Int32 → zM → Option zM
  | 0, _, _, _ => none
  | n + 1, x3, x4, M => if x1 ≤ x4 then (
    some M)
    else (
    (fX6_leastChoice x4 x3 x2 M).bind fun (r2 : Int32) =>
    (fX3_tell r2.toInt64 M).bind fun (M38 : zM) =>
    zlet (if r2 < 0 then (
    x3)
    else (
    zlet (x3 ||| (zshl 1 r2)) fun (x3_52 : Int32) =>
    x3_52)) fun (x3_53 : Int32) =>
    fX11_tellShares_L12 x1 x2 n x3_53 (x4 + 1) M38)
def fX11_tellShares (x1 : Int32) (x2 : Int32) (M : zM) : Option zM := zlet (fX3_begin M) fun (M4 : zM) =>
  (fX11_tellShares_L12 x1 x2 4000 0 0 M4).bind fun (M_59 : zM) =>
  some M_59
set_option maxHeartbeats 4000000 in
theorem lX11_tellShares_12 {E : zE} {Γ : zT} {d : Nat} {K1 : zM → Prop} (hC : Cx E Γ RX11 cX11_tellShares 6 d) (hd : 2 ≤ d) (x1 : Int32) (x2 : Int32) (hx : ∀ (M_59 : zM), K1 M_59 → G E Γ 6 59 [] [] M_59) :
    ∀ (n : Nat) (x3 : Int32) (x4 : Int32) (M : zM), wpO (fX11_tellShares_L12 x1 x2 n x3 x4 M) K1 → G E Γ 6 12 [(0, .ref 0), (1, .int x1), (2, .int x2), (3, .int x3), (4, .int x4)] [] M := by
  intro n
  induction n with
  | zero =>
    intro x3 x4 M h
    exact (wpO_0 h).elim
  | succ n ih =>
    intro x3 x4 M h
    rw [fX11_tellShares_L12.eq_2] at h
    refine g_iload (i := 4) (x := x4) hC (dX11_tellShares_12) rfl ?_
    refine g_iload_n (i := 1) (x := x1) hC (dX11_tellShares_14) rfl rfl ?_
    refine g_icmp_ge (tgt := 59) hC (dX11_tellShares_15) (by decide) (fun c15 => ?_) (fun c15 => ?_)
    · have h := wpO_t c15 h
      refine g_sub (lv' := []) [] rfl ?_
      exact hx _ (wpO_s h)
    · have h := wpO_f c15 h
      refine g_aload_n (i := 0) (x := 0) hC (dX11_tellShares_18) rfl rfl ?_
      refine g_getR (r := 26) hC flX11_84 (dX11_tellShares_19) rfl rfl rfl ?_
      refine g_iload (i := 4) (x := x4) hC (dX11_tellShares_22) rfl ?_
      refine g_iload_n (i := 3) (x := x3) hC (dX11_tellShares_24) rfl rfl ?_
      refine g_iload_n (i := 2) (x := x2) hC (dX11_tellShares_25) rfl rfl ?_
      have h := wpO_b h
      refine g_callVi ([.int x4, .int x3, .int x2]) hC wvX11_457 (dX11_tellShares_26) rfl rfl (by omega) (Nat.le_of_ble_eq_true rfl) (cX6_leastChoice_ok (by omega) x4 x3 x2 M h) (fun r2 N q => ?_)
      obtain ⟨rfl, h⟩ := q
      refine g_istore (i := 5) (lv2 := [(5, .int r2), (0, .ref 0), (1, .int x1), (2, .int x2), (3, .int x3), (4, .int x4)]) hC (dX11_tellShares_29) (by decide) rfl ?_
      refine g_aload_n (i := 0) (x := 0) hC (dX11_tellShares_31) rfl rfl ?_
      refine g_getR (r := 3) hC flX11_19 (dX11_tellShares_32) rfl rfl rfl ?_
      refine g_iload (i := 5) (x := r2) hC (dX11_tellShares_35) rfl ?_
      refine g_i2l hC (dX11_tellShares_37) ?_
      have h := wpO_b h
      refine g_callVv ([.long r2.toInt64]) hC wvX11_233 (dX11_tellShares_38) rfl rfl (by omega) (Nat.le_of_ble_eq_true rfl) (cX3_tell_ok (by omega) r2.toInt64 M h) (fun M38 h => ?_)
      refine g_iload (i := 5) (x := r2) hC (dX11_tellShares_41) rfl ?_
      obtain ⟨x3_53, e_x3_53, h⟩ := wpO_l h
      have hJ4 : G E Γ 6 53 [(0, .ref 0), (1, .int x1), (2, .int x2), (3, .int x3_53), (4, .int x4)] [] M38 := by
        refine g_iinc (x := x4) (v := (x4 + 1)) (lv2 := [(4, .int (x4 + 1)), (0, .ref 0), (1, .int x1), (2, .int x2), (3, .int x3_53)]) hC (dX11_tellShares_53) rfl rfl (by decide) rfl ?_
        refine g_goto (tgt := 12) hC (dX11_tellShares_56) (by decide) ?_
        refine g_sub (lv' := [(0, .ref 0), (1, .int x1), (2, .int x2), (3, .int x3_53), (4, .int (x4 + 1))]) [1, 2, 3, 4, 0] rfl ?_
        exact ih _ _ _ h
      refine g_if_lt (tgt := 53) hC (dX11_tellShares_43) (by decide) (fun c43 => ?_) (fun c43 => ?_)
      · rw [if_pos c43] at e_x3_53
        refine g_sub (lv' := [(0, .ref 0), (1, .int x1), (2, .int x2), (3, .int x3), (4, .int x4)]) [1, 2, 3, 4, 5] rfl ?_
        subst e_x3_53
        exact hJ4
      · rw [if_neg c43] at e_x3_53
        refine g_iload_n (i := 3) (x := x3) hC (dX11_tellShares_46) rfl rfl ?_
        refine g_iconst (v := 1) hC (dX11_tellShares_47) kc_1 ?_
        refine g_iload (i := 5) (x := r2) hC (dX11_tellShares_48) rfl ?_
        refine g_ishl hC (dX11_tellShares_50) ?_
        refine g_ior hC (dX11_tellShares_51) ?_
        refine g_nmi (fun x3_52 e_x3_52 => ?_)
        have e_x3_53 := zle e_x3_52 e_x3_53
        refine g_istore_n (i := 3) (lv2 := [(3, .int x3_52), (5, .int r2), (0, .ref 0), (1, .int x1), (2, .int x2), (4, .int x4)]) hC (dX11_tellShares_52) rfl (by decide) rfl ?_
        refine g_sub (lv' := [(0, .ref 0), (1, .int x1), (2, .int x2), (3, .int x3_52), (4, .int x4)]) [2, 3, 4, 0, 5] rfl ?_
        subst e_x3_53
        exact hJ4
set_option maxHeartbeats 4000000 in
theorem cX11_tellShares_ok {E : zE} {d : Nat} (hd : 2 ≤ d) (x1 : Int32) (x2 : Int32) (M : zM) {K : zM → Prop} (h : wpO (fX11_tellShares x1 x2 M) K) : CMv E d yX11_tellShares cX11_tellShares 6 (none) [.ref 0, .int x1, .int x2] M K := by
  refine CMv.of (by decide) (Nat.le_of_ble_eq_true rfl) (fun Γ hC hr => ?_)
  have hC : Cx E Γ RX11 cX11_tellShares 6 d := hC
  show G E Γ 6 0 [(0, .ref 0), (1, .int x1), (2, .int x2)] [] M
  unfold fX11_tellShares at h
  refine g_aload_n (i := 0) (x := 0) hC (dX11_tellShares_0) rfl rfl ?_
  refine g_getR (r := 3) hC flX11_19 (dX11_tellShares_1) rfl rfl rfl ?_
  refine g_callVv ([]) hC wvX11_230 (dX11_tellShares_4) rfl rfl (by omega) (Nat.le_of_ble_eq_true rfl) (cX3_begin_ok (by omega) M (K := fun r => r = fX3_begin M) rfl) (fun N q => ?_)
  subst q
  refine g_nmM (fun M4 e_M4 => ?_)
  have h := wpO_n e_M4 h
  refine g_iconst (v := 0) hC (dX11_tellShares_7) kc_0 ?_
  refine g_istore_n (i := 3) (lv2 := [(3, .int 0), (0, .ref 0), (1, .int x1), (2, .int x2)]) hC (dX11_tellShares_8) rfl (by decide) rfl ?_
  refine g_iconst (v := 0) hC (dX11_tellShares_9) kc_0 ?_
  refine g_istore (i := 4) (lv2 := [(4, .int 0), (3, .int 0), (0, .ref 0), (1, .int x1), (2, .int x2)]) hC (dX11_tellShares_10) (by decide) rfl ?_
  refine g_sub (lv' := [(0, .ref 0), (1, .int x1), (2, .int x2), (3, .int 0), (4, .int 0)]) [2, 3, 4, 1, 0] rfl ?_
  refine wpO_bJ h (fun KL12 hKL12 h => ?_)
  refine lX11_tellShares_12 (K1 := KL12) hC (by omega) x1 x2 (fun M_59 h => ?_) _ _ _ _ h
  have h := hKL12 _ h
  refine g_vreturn hC hr (dX11_tellShares_59) ?_
  exact wpO_s h
/-! LostByState.shares()I -/
theorem dX11_shares_0 : decode cX11_shares 0 = .ok (.aload_n 0, 1) := by decide +kernel
theorem dX11_shares_1 : decode cX11_shares 1 = .ok (.getfield 10, 3) := by decide +kernel
theorem dX11_shares_4 : decode cX11_shares 4 = .ok (.invokevirtual 145, 3) := by decide +kernel
theorem dX11_shares_7 : decode cX11_shares 7 = .ok (.ifCond .eq 7, 3) := by decide +kernel
theorem dX11_shares_10 : decode cX11_shares 10 = .ok (.iconst 0, 1) := by decide +kernel
theorem dX11_shares_11 : decode cX11_shares 11 = .ok (.goto 24, 3) := by decide +kernel
theorem dX11_shares_14 : decode cX11_shares 14 = .ok (.aload_n 0, 1) := by decide +kernel
theorem dX11_shares_15 : decode cX11_shares 15 = .ok (.getfield 10, 3) := by decide +kernel
theorem dX11_shares_18 : decode cX11_shares 18 = .ok (.bipush 97, 2) := by decide +kernel
theorem dX11_shares_20 : decode cX11_shares 20 = .ok (.bipush 8, 2) := by decide +kernel
theorem dX11_shares_22 : decode cX11_shares 22 = .ok (.bipush 80, 2) := by decide +kernel
theorem dX11_shares_24 : decode cX11_shares 24 = .ok (.aload_n 0, 1) := by decide +kernel
theorem dX11_shares_25 : decode cX11_shares 25 = .ok (.getfield 84, 3) := by decide +kernel
theorem dX11_shares_28 : decode cX11_shares 28 = .ok (.getfield 295, 3) := by decide +kernel
theorem dX11_shares_31 : decode cX11_shares 31 = .ok (.iconst 0, 1) := by decide +kernel
theorem dX11_shares_32 : decode cX11_shares 32 = .ok (.invokevirtual 154, 3) := by decide +kernel
theorem dX11_shares_35 : decode cX11_shares 35 = .ok (.istore_n 1, 1) := by decide +kernel
theorem dX11_shares_36 : decode cX11_shares 36 = .ok (.aload_n 0, 1) := by decide +kernel
theorem dX11_shares_37 : decode cX11_shares 37 = .ok (.getfield 10, 3) := by decide +kernel
theorem dX11_shares_40 : decode cX11_shares 40 = .ok (.invokevirtual 132, 3) := by decide +kernel
theorem dX11_shares_43 : decode cX11_shares 43 = .ok (.iload_n 1, 1) := by decide +kernel
theorem dX11_shares_44 : decode cX11_shares 44 = .ok (.ifCond .ge 5, 3) := by decide +kernel
theorem dX11_shares_47 : decode cX11_shares 47 = .ok (.iload_n 1, 1) := by decide +kernel
theorem dX11_shares_48 : decode cX11_shares 48 = .ok (.ireturn, 1) := by decide +kernel
theorem dX11_shares_49 : decode cX11_shares 49 = .ok (.iconst 0, 1) := by decide +kernel
theorem dX11_shares_50 : decode cX11_shares 50 = .ok (.istore_n 2, 1) := by decide +kernel
theorem dX11_shares_51 : decode cX11_shares 51 = .ok (.iload_n 2, 1) := by decide +kernel
theorem dX11_shares_52 : decode cX11_shares 52 = .ok (.iload_n 1, 1) := by decide +kernel
theorem dX11_shares_53 : decode cX11_shares 53 = .ok (.if_icmp .ge 73, 3) := by decide +kernel
theorem dX11_shares_56 : decode cX11_shares 56 = .ok (.iconst 0, 1) := by decide +kernel
theorem dX11_shares_57 : decode cX11_shares 57 = .ok (.istore_n 3, 1) := by decide +kernel
theorem dX11_shares_58 : decode cX11_shares 58 = .ok (.iload_n 3, 1) := by decide +kernel
theorem dX11_shares_59 : decode cX11_shares 59 = .ok (.aload_n 0, 1) := by decide +kernel
theorem dX11_shares_60 : decode cX11_shares 60 = .ok (.getfield 26, 3) := by decide +kernel
theorem dX11_shares_63 : decode cX11_shares 63 = .ok (.getfield 135, 3) := by decide +kernel
theorem dX11_shares_66 : decode cX11_shares 66 = .ok (.if_icmp .ge 54, 3) := by decide +kernel
theorem dX11_shares_69 : decode cX11_shares 69 = .ok (.aload_n 0, 1) := by decide +kernel
theorem dX11_shares_70 : decode cX11_shares 70 = .ok (.aload_n 0, 1) := by decide +kernel
theorem dX11_shares_71 : decode cX11_shares 71 = .ok (.getfield 84, 3) := by decide +kernel
theorem dX11_shares_74 : decode cX11_shares 74 = .ok (.getfield 295, 3) := by decide +kernel
theorem dX11_shares_77 : decode cX11_shares 77 = .ok (.iload_n 2, 1) := by decide +kernel
theorem dX11_shares_78 : decode cX11_shares 78 = .ok (.iaload, 1) := by decide +kernel
theorem dX11_shares_79 : decode cX11_shares 79 = .ok (.iload_n 3, 1) := by decide +kernel
theorem dX11_shares_80 : decode cX11_shares 80 = .ok (.aload_n 0, 1) := by decide +kernel
theorem dX11_shares_81 : decode cX11_shares 81 = .ok (.getfield 33, 3) := by decide +kernel
theorem dX11_shares_84 : decode cX11_shares 84 = .ok (.invokevirtual 272, 3) := by decide +kernel
theorem dX11_shares_87 : decode cX11_shares 87 = .ok (.istore 4, 2) := by decide +kernel
theorem dX11_shares_89 : decode cX11_shares 89 = .ok (.aload_n 0, 1) := by decide +kernel
theorem dX11_shares_90 : decode cX11_shares 90 = .ok (.getfield 84, 3) := by decide +kernel
theorem dX11_shares_93 : decode cX11_shares 93 = .ok (.getfield 298, 3) := by decide +kernel
theorem dX11_shares_96 : decode cX11_shares 96 = .ok (.iload_n 2, 1) := by decide +kernel
theorem dX11_shares_97 : decode cX11_shares 97 = .ok (.bipush 8, 2) := by decide +kernel
theorem dX11_shares_99 : decode cX11_shares 99 = .ok (.imul, 1) := by decide +kernel
theorem dX11_shares_100 : decode cX11_shares 100 = .ok (.iload_n 3, 1) := by decide +kernel
theorem dX11_shares_101 : decode cX11_shares 101 = .ok (.iadd, 1) := by decide +kernel
theorem dX11_shares_102 : decode cX11_shares 102 = .ok (.iload 4, 2) := by decide +kernel
theorem dX11_shares_104 : decode cX11_shares 104 = .ok (.sipush (-999), 3) := by decide +kernel
theorem dX11_shares_107 : decode cX11_shares 107 = .ok (.sipush 999, 3) := by decide +kernel
theorem dX11_shares_110 : decode cX11_shares 110 = .ok (.invokestatic 301, 3) := by decide +kernel
theorem dX11_shares_113 : decode cX11_shares 113 = .ok (.iastore, 1) := by decide +kernel
theorem dX11_shares_114 : decode cX11_shares 114 = .ok (.iinc 3 1, 3) := by decide +kernel
theorem dX11_shares_117 : decode cX11_shares 117 = .ok (.goto (-59), 3) := by decide +kernel
theorem dX11_shares_120 : decode cX11_shares 120 = .ok (.iinc 2 1, 3) := by decide +kernel
theorem dX11_shares_123 : decode cX11_shares 123 = .ok (.goto (-72), 3) := by decide +kernel
theorem dX11_shares_126 : decode cX11_shares 126 = .ok (.aload_n 0, 1) := by decide +kernel
theorem dX11_shares_127 : decode cX11_shares 127 = .ok (.getfield 33, 3) := by decide +kernel
theorem dX11_shares_130 : decode cX11_shares 130 = .ok (.invokevirtual 304, 3) := by decide +kernel
theorem dX11_shares_133 : decode cX11_shares 133 = .ok (.istore_n 2, 1) := by decide +kernel
theorem dX11_shares_134 : decode cX11_shares 134 = .ok (.aload_n 0, 1) := by decide +kernel
theorem dX11_shares_135 : decode cX11_shares 135 = .ok (.getfield 84, 3) := by decide +kernel
theorem dX11_shares_138 : decode cX11_shares 138 = .ok (.iload_n 1, 1) := by decide +kernel
theorem dX11_shares_139 : decode cX11_shares 139 = .ok (.iload_n 2, 1) := by decide +kernel
theorem dX11_shares_140 : decode cX11_shares 140 = .ok (.invokevirtual 307, 3) := by decide +kernel
theorem dX11_shares_143 : decode cX11_shares 143 = .ok (.aload_n 0, 1) := by decide +kernel
theorem dX11_shares_144 : decode cX11_shares 144 = .ok (.iload_n 1, 1) := by decide +kernel
theorem dX11_shares_145 : decode cX11_shares 145 = .ok (.iload_n 2, 1) := by decide +kernel
theorem dX11_shares_146 : decode cX11_shares 146 = .ok (.invokevirtual 310, 3) := by decide +kernel
theorem dX11_shares_149 : decode cX11_shares 149 = .ok (.aload_n 0, 1) := by decide +kernel
theorem dX11_shares_150 : decode cX11_shares 150 = .ok (.getfield 84, 3) := by decide +kernel
theorem dX11_shares_153 : decode cX11_shares 153 = .ok (.getfield 313, 3) := by decide +kernel
theorem dX11_shares_156 : decode cX11_shares 156 = .ok (.iconst 0, 1) := by decide +kernel
theorem dX11_shares_157 : decode cX11_shares 157 = .ok (.iaload, 1) := by decide +kernel
theorem dX11_shares_158 : decode cX11_shares 158 = .ok (.ireturn, 1) := by decide +kernel
def fX11_shares_L58 (x1 : Int32) (x2 : Int32) : Nat → Int32 → zM → Option zM
  | 0, _, _ => none
  | n + 1, x3, M => if (M.1 5 3) ≤ x3 then (
    some M)
    else (
    if zin x2 6 then (
    (fX11_matchOf (M.1 27 x2.toNatClampNeg) x3 60 M).bind fun (q : Int32 × zM) => zp q fun r6 M84 =>
    if zin ((x2 * 8) + x3) 48 then (
    zlet (zSI M84 28 ((x2 * 8) + x3).toNatClampNeg (fX11_putBetween r6 (-999) 999)) fun (M113 : zM) =>
    fX11_shares_L58 x1 x2 n (x3 + 1) M113) else none) else none)
def fX11_shares_L51 (x1 : Int32) : Nat → Int32 → zM → Option zM
  | 0, _, _ => none
  | n + 1, x2, M => if x1 ≤ x2 then (
    some M)
    else (
    (fX11_shares_L58 x1 x2 4000 0 M).bind fun (M_120 : zM) =>
    fX11_shares_L51 x1 n (x2 + 1) M_120)
def fX11_shares  (M : zM) : Option (Int32 × zM) := (if (fX9_isEmpty M) = 0 then (
  (fX9_readSets 97 8 80 27 0 M).bind fun (q : Int32 × zM) => zp q fun r3 M32 =>
  some (r3, M32))
  else (
  some (0, M)) : Option (Int32 × zM)).bind fun (q : Int32 × zM) => zp q fun s0_35 M_35 =>
  zlet (fX9_clear M_35) fun (M40 : zM) =>
  if 0 ≤ s0_35 then (
  (fX11_shares_L51 s0_35 4000 0 M40).bind fun (M_126 : zM) =>
  (fX10_inside 60 M_126).bind fun (r9 : Int32) =>
  (fX6_workOut s0_35 r9 M_126).bind fun (M140 : zM) =>
  (fX11_tellShares s0_35 r9 M140).bind fun (M146 : zM) =>
  some (M146.1 29 0, M146))
  else (
  some (s0_35, M40))
set_option maxHeartbeats 4000000 in
theorem lX11_shares_58 {E : zE} {Γ : zT} {d : Nat} {K1 : zM → Prop} (hC : Cx E Γ RX11 cX11_shares 5 d) (hd : 3 ≤ d) (x1 : Int32) (x2 : Int32) (hx : ∀ (M_120 : zM), K1 M_120 → G E Γ 5 120 [(0, .ref 0), (1, .int x1), (2, .int x2)] [] M_120) :
    ∀ (n : Nat) (x3 : Int32) (M : zM), wpO (fX11_shares_L58 x1 x2 n x3 M) K1 → G E Γ 5 58 [(0, .ref 0), (1, .int x1), (2, .int x2), (3, .int x3)] [] M := by
  intro n
  induction n with
  | zero =>
    intro x3 M h
    exact (wpO_0 h).elim
  | succ n ih =>
    intro x3 M h
    rw [fX11_shares_L58.eq_2] at h
    refine g_iload_n (i := 3) (x := x3) hC (dX11_shares_58) rfl rfl ?_
    refine g_aload_n (i := 0) (x := 0) hC (dX11_shares_59) rfl rfl ?_
    refine g_getR (r := 5) hC flX11_26 (dX11_shares_60) rfl rfl rfl ?_
    refine g_getI hC flX11_135 (dX11_shares_63) rfl rfl ?_
    refine g_icmp_ge (tgt := 120) hC (dX11_shares_66) (by decide) (fun c66 => ?_) (fun c66 => ?_)
    · have h := wpO_t c66 h
      refine g_sub (lv' := [(0, .ref 0), (1, .int x1), (2, .int x2)]) [0, 1, 2] rfl ?_
      exact hx _ (wpO_s h)
    · have h := wpO_f c66 h
      refine g_aload_n (i := 0) (x := 0) hC (dX11_shares_69) rfl rfl ?_
      refine g_aload_n (i := 0) (x := 0) hC (dX11_shares_70) rfl rfl ?_
      refine g_getR (r := 26) hC flX11_84 (dX11_shares_71) rfl rfl rfl ?_
      refine g_getR (r := 27) hC flX11_295 (dX11_shares_74) rfl rfl rfl ?_
      refine g_iload_n (i := 2) (x := x2) hC (dX11_shares_77) rfl rfl ?_
      obtain ⟨q5, h⟩ := wpO_g h
      refine g_iaload (n := 6) hC (dX11_shares_78) rfl q5 ?_
      refine g_iload_n (i := 3) (x := x3) hC (dX11_shares_79) rfl rfl ?_
      refine g_aload_n (i := 0) (x := 0) hC (dX11_shares_80) rfl rfl ?_
      refine g_getR (r := 60) hC flX11_33 (dX11_shares_81) rfl rfl rfl ?_
      have h := wpO_b h
      refine g_callVi ([.int (M.1 27 x2.toNatClampNeg), .int x3, .ref 60]) hC wvX11_272 (dX11_shares_84) rfl rfl (by omega) (Nat.le_of_ble_eq_true rfl) (cX11_matchOf_ok (by omega) (M.1 27 x2.toNatClampNeg) x3 60 M h) (fun r6 M84 h => ?_)
      have h := wpO_p h
      refine g_istore (i := 4) (lv2 := [(4, .int r6), (0, .ref 0), (1, .int x1), (2, .int x2), (3, .int x3)]) hC (dX11_shares_87) (by decide) rfl ?_
      refine g_aload_n (i := 0) (x := 0) hC (dX11_shares_89) rfl rfl ?_
      refine g_getR (r := 26) hC flX11_84 (dX11_shares_90) rfl rfl rfl ?_
      refine g_getR (r := 28) hC flX11_298 (dX11_shares_93) rfl rfl rfl ?_
      refine g_iload_n (i := 2) (x := x2) hC (dX11_shares_96) rfl rfl ?_
      refine g_bipush (v := 8) hC (dX11_shares_97) kb_8 ?_
      refine g_imul hC (dX11_shares_99) ?_
      refine g_iload_n (i := 3) (x := x3) hC (dX11_shares_100) rfl rfl ?_
      refine g_iadd hC (dX11_shares_101) ?_
      refine g_iload (i := 4) (x := r6) hC (dX11_shares_102) rfl ?_
      refine g_sipush (v := (-999)) hC (dX11_shares_104) ks_m999 ?_
      refine g_sipush (v := 999) hC (dX11_shares_107) ks_999 ?_
      refine g_callSi ([.int r6, .int (-999), .int 999]) hC wsX11_301 (dX11_shares_110) rfl (by omega) (Nat.le_of_ble_eq_true rfl) (cX11_putBetween_ok (by omega) r6 (-999) 999 M84 (K := fun r => r = fX11_putBetween r6 (-999) 999) rfl) (fun r N q => ?_)
      obtain ⟨rfl, rfl⟩ := q
      obtain ⟨q8, h⟩ := wpO_g h
      refine g_iastore (n := 48) hC (dX11_shares_113) rfl q8 ?_
      refine g_nmM (fun M113 e_M113 => ?_)
      have h := wpO_n e_M113 h
      refine g_iinc (x := x3) (v := (x3 + 1)) (lv2 := [(3, .int (x3 + 1)), (4, .int r6), (0, .ref 0), (1, .int x1), (2, .int x2)]) hC (dX11_shares_114) rfl rfl (by decide) rfl ?_
      refine g_goto (tgt := 58) hC (dX11_shares_117) (by decide) ?_
      refine g_sub (lv' := [(0, .ref 0), (1, .int x1), (2, .int x2), (3, .int (x3 + 1))]) [2, 3, 4, 0] rfl ?_
      exact ih _ _ h
set_option maxHeartbeats 4000000 in
theorem lX11_shares_51 {E : zE} {Γ : zT} {d : Nat} {K1 : zM → Prop} (hC : Cx E Γ RX11 cX11_shares 5 d) (hd : 3 ≤ d) (x1 : Int32) (hx : ∀ (M_126 : zM), K1 M_126 → G E Γ 5 126 [(0, .ref 0), (1, .int x1)] [] M_126) :
    ∀ (n : Nat) (x2 : Int32) (M : zM), wpO (fX11_shares_L51 x1 n x2 M) K1 → G E Γ 5 51 [(0, .ref 0), (1, .int x1), (2, .int x2)] [] M := by
  intro n
  induction n with
  | zero =>
    intro x2 M h
    exact (wpO_0 h).elim
  | succ n ih =>
    intro x2 M h
    rw [fX11_shares_L51.eq_2] at h
    refine g_iload_n (i := 2) (x := x2) hC (dX11_shares_51) rfl rfl ?_
    refine g_iload_n (i := 1) (x := x1) hC (dX11_shares_52) rfl rfl ?_
    refine g_icmp_ge (tgt := 126) hC (dX11_shares_53) (by decide) (fun c53 => ?_) (fun c53 => ?_)
    · have h := wpO_t c53 h
      refine g_sub (lv' := [(0, .ref 0), (1, .int x1)]) [0, 1] rfl ?_
      exact hx _ (wpO_s h)
    · have h := wpO_f c53 h
      refine g_iconst (v := 0) hC (dX11_shares_56) kc_0 ?_
      refine g_istore_n (i := 3) (lv2 := [(3, .int 0), (0, .ref 0), (1, .int x1), (2, .int x2)]) hC (dX11_shares_57) rfl (by decide) rfl ?_
      refine g_sub (lv' := [(0, .ref 0), (1, .int x1), (2, .int x2), (3, .int 0)]) [1, 2, 3, 0] rfl ?_
      refine wpO_bJ h (fun KL58 hKL58 h => ?_)
      refine lX11_shares_58 (K1 := KL58) hC (by omega) x1 x2 (fun M_120 h => ?_) _ _ _ h
      have h := hKL58 _ h
      refine g_iinc (x := x2) (v := (x2 + 1)) (lv2 := [(2, .int (x2 + 1)), (0, .ref 0), (1, .int x1)]) hC (dX11_shares_120) rfl rfl (by decide) rfl ?_
      refine g_goto (tgt := 51) hC (dX11_shares_123) (by decide) ?_
      refine g_sub (lv' := [(0, .ref 0), (1, .int x1), (2, .int (x2 + 1))]) [1, 2, 0] rfl ?_
      exact ih _ _ h
set_option maxHeartbeats 4000000 in
theorem cX11_shares_ok {E : zE} {d : Nat} (hd : 3 ≤ d)  (M : zM) {K : (Int32 × zM) → Prop} (h : wpO (fX11_shares  M) K) : CMi E d yX11_shares cX11_shares 5 (some .int) [.ref 0] M (fun r N => K (r, N)) := by
  refine CMi.of (by decide) (Nat.le_of_ble_eq_true rfl) (fun Γ hC hr => ?_)
  have hC : Cx E Γ RX11 cX11_shares 5 d := hC
  show G E Γ 5 0 [(0, .ref 0)] [] M
  unfold fX11_shares at h
  refine g_aload_n (i := 0) (x := 0) hC (dX11_shares_0) rfl rfl ?_
  refine g_getR (r := 1) hC flX11_10 (dX11_shares_1) rfl rfl rfl ?_
  refine g_callVi ([]) hC wvX11_145 (dX11_shares_4) rfl rfl (by omega) (Nat.le_of_ble_eq_true rfl) (cX9_isEmpty_ok (by omega) M (K := fun r => r = fX9_isEmpty M) rfl) (fun r N q => ?_)
  obtain ⟨rfl, rfl⟩ := q
  refine wpO_bJ h (fun KJ2 hKJ2 h => ?_)
  have hJ2 : ∀ (s0_35 : Int32) (M_35 : zM), KJ2 (s0_35, M_35) → G E Γ 5 35 [(0, .ref 0)] [.int s0_35] M_35 := by
    intro s0_35 M_35 h
    have h := hKJ2 _ h
    have h := wpO_p h
    refine g_istore_n (i := 1) (lv2 := [(1, .int s0_35), (0, .ref 0)]) hC (dX11_shares_35) rfl (by decide) rfl ?_
    refine g_aload_n (i := 0) (x := 0) hC (dX11_shares_36) rfl rfl ?_
    refine g_getR (r := 1) hC flX11_10 (dX11_shares_37) rfl rfl rfl ?_
    refine g_callVv ([]) hC wvX11_132 (dX11_shares_40) rfl rfl (by omega) (Nat.le_of_ble_eq_true rfl) (cX9_clear_ok (by omega) M_35 (K := fun r => r = fX9_clear M_35) rfl) (fun N q => ?_)
    subst q
    refine g_nmM (fun M40 e_M40 => ?_)
    have h := wpO_n e_M40 h
    refine g_iload_n (i := 1) (x := s0_35) hC (dX11_shares_43) rfl rfl ?_
    refine g_if_ge (tgt := 49) hC (dX11_shares_44) (by decide) (fun c44 => ?_) (fun c44 => ?_)
    · have h := wpO_t c44 h
      refine g_iconst (v := 0) hC (dX11_shares_49) kc_0 ?_
      refine g_istore_n (i := 2) (lv2 := [(2, .int 0), (1, .int s0_35), (0, .ref 0)]) hC (dX11_shares_50) rfl (by decide) rfl ?_
      refine g_sub (lv' := [(0, .ref 0), (1, .int s0_35), (2, .int 0)]) [2, 1, 0] rfl ?_
      refine wpO_bJ h (fun KL51 hKL51 h => ?_)
      refine lX11_shares_51 (K1 := KL51) hC (by omega) s0_35 (fun M_126 h => ?_) _ _ _ h
      have h := hKL51 _ h
      refine g_aload_n (i := 0) (x := 0) hC (dX11_shares_126) rfl rfl ?_
      refine g_getR (r := 60) hC flX11_33 (dX11_shares_127) rfl rfl rfl ?_
      have h := wpO_b h
      refine g_callVi ([]) hC wvX11_304 (dX11_shares_130) rfl rfl (by omega) (Nat.le_of_ble_eq_true rfl) (cX10_inside_ok (by omega) 60 M_126 h) (fun r9 N q => ?_)
      obtain ⟨rfl, h⟩ := q
      refine g_istore_n (i := 2) (lv2 := [(2, .int r9), (0, .ref 0), (1, .int s0_35)]) hC (dX11_shares_133) rfl (by decide) rfl ?_
      refine g_aload_n (i := 0) (x := 0) hC (dX11_shares_134) rfl rfl ?_
      refine g_getR (r := 26) hC flX11_84 (dX11_shares_135) rfl rfl rfl ?_
      refine g_iload_n (i := 1) (x := s0_35) hC (dX11_shares_138) rfl rfl ?_
      refine g_iload_n (i := 2) (x := r9) hC (dX11_shares_139) rfl rfl ?_
      have h := wpO_b h
      refine g_callVv ([.int s0_35, .int r9]) hC wvX11_307 (dX11_shares_140) rfl rfl (by omega) (Nat.le_of_ble_eq_true rfl) (cX6_workOut_ok (by omega) s0_35 r9 M_126 h) (fun M140 h => ?_)
      refine g_aload_n (i := 0) (x := 0) hC (dX11_shares_143) rfl rfl ?_
      refine g_iload_n (i := 1) (x := s0_35) hC (dX11_shares_144) rfl rfl ?_
      refine g_iload_n (i := 2) (x := r9) hC (dX11_shares_145) rfl rfl ?_
      have h := wpO_b h
      refine g_callVv ([.int s0_35, .int r9]) hC wvX11_310 (dX11_shares_146) rfl rfl (by omega) (Nat.le_of_ble_eq_true rfl) (cX11_tellShares_ok (by omega) s0_35 r9 M140 h) (fun M146 h => ?_)
      refine g_aload_n (i := 0) (x := 0) hC (dX11_shares_149) rfl rfl ?_
      refine g_getR (r := 26) hC flX11_84 (dX11_shares_150) rfl rfl rfl ?_
      refine g_getR (r := 29) hC flX11_313 (dX11_shares_153) rfl rfl rfl ?_
      refine g_iconst (v := 0) hC (dX11_shares_156) kc_0 ?_
      refine g_iaload (n := 1792) hC (dX11_shares_157) rfl (by decide) ?_
      refine g_ireturn hC hr (dX11_shares_158) ?_
      exact wpO_s h
    · have h := wpO_f c44 h
      refine g_iload_n (i := 1) (x := s0_35) hC (dX11_shares_47) rfl rfl ?_
      refine g_ireturn hC hr (dX11_shares_48) ?_
      exact wpO_s h
  refine g_if_eq (tgt := 14) hC (dX11_shares_7) (by decide) (fun c7 => ?_) (fun c7 => ?_)
  · have h := wpO_t c7 h
    refine g_aload_n (i := 0) (x := 0) hC (dX11_shares_14) rfl rfl ?_
    refine g_getR (r := 1) hC flX11_10 (dX11_shares_15) rfl rfl rfl ?_
    refine g_bipush (v := 97) hC (dX11_shares_18) kb_97 ?_
    refine g_bipush (v := 8) hC (dX11_shares_20) kb_8 ?_
    refine g_bipush (v := 80) hC (dX11_shares_22) kb_80 ?_
    refine g_aload_n (i := 0) (x := 0) hC (dX11_shares_24) rfl rfl ?_
    refine g_getR (r := 26) hC flX11_84 (dX11_shares_25) rfl rfl rfl ?_
    refine g_getR (r := 27) hC flX11_295 (dX11_shares_28) rfl rfl rfl ?_
    refine g_iconst (v := 0) hC (dX11_shares_31) kc_0 ?_
    have h := wpO_b h
    refine g_callVi ([.int 97, .int 8, .int 80, .ref 27, .int 0]) hC wvX11_154 (dX11_shares_32) rfl rfl (by omega) (Nat.le_of_ble_eq_true rfl) (cX9_readSets_ok (by omega) 97 8 80 27 0 M h) (fun r3 M32 h => ?_)
    have h := wpO_p h
    exact hJ2 _ _ (wpO_s h)
  · have h := wpO_f c7 h
    refine g_iconst (v := 0) hC (dX11_shares_10) kc_0 ?_
    refine g_goto (tgt := 35) hC (dX11_shares_11) (by decide) ?_
    exact hJ2 _ _ (wpO_s h)
/-! LostByState.until(I)I -/
theorem dX11_until_0 : decode cX11_until 0 = .ok (.aload_n 0, 1) := by decide +kernel
theorem dX11_until_1 : decode cX11_until 1 = .ok (.iload_n 1, 1) := by decide +kernel
theorem dX11_until_2 : decode cX11_until 2 = .ok (.invokevirtual 166, 3) := by decide +kernel
theorem dX11_until_5 : decode cX11_until 5 = .ok (.ifCond .ne 5, 3) := by decide +kernel
theorem dX11_until_8 : decode cX11_until 8 = .ok (.iconst (-1), 1) := by decide +kernel
theorem dX11_until_9 : decode cX11_until 9 = .ok (.ireturn, 1) := by decide +kernel
theorem dX11_until_10 : decode cX11_until 10 = .ok (.aload_n 0, 1) := by decide +kernel
theorem dX11_until_11 : decode cX11_until 11 = .ok (.getfield 33, 3) := by decide +kernel
theorem dX11_until_14 : decode cX11_until 14 = .ok (.iload_n 1, 1) := by decide +kernel
theorem dX11_until_15 : decode cX11_until 15 = .ok (.invokevirtual 316, 3) := by decide +kernel
theorem dX11_until_18 : decode cX11_until 18 = .ok (.ifCond .eq 18, 3) := by decide +kernel
theorem dX11_until_21 : decode cX11_until 21 = .ok (.aload_n 0, 1) := by decide +kernel
theorem dX11_until_22 : decode cX11_until 22 = .ok (.getfield 33, 3) := by decide +kernel
theorem dX11_until_25 : decode cX11_until 25 = .ok (.iload_n 1, 1) := by decide +kernel
theorem dX11_until_26 : decode cX11_until 26 = .ok (.aload_n 0, 1) := by decide +kernel
theorem dX11_until_27 : decode cX11_until 27 = .ok (.getfield 110, 3) := by decide +kernel
theorem dX11_until_30 : decode cX11_until 30 = .ok (.invokevirtual 319, 3) := by decide +kernel
theorem dX11_until_33 : decode cX11_until 33 = .ok (.goto 5, 3) := by decide +kernel
theorem dX11_until_36 : decode cX11_until 36 = .ok (.bipush (-2), 2) := by decide +kernel
theorem dX11_until_38 : decode cX11_until 38 = .ok (.ireturn, 1) := by decide +kernel
def fX11_until (x1 : Int32) (M : zM) : Option Int32 := if (fX11_isThing x1 M) = 0 then (
  some (-1))
  else (
  (fX10_isIn 60 x1 M).bind fun (r2 : Int32) =>
  if r2 = 0 then (
  some (-2))
  else (
  (fX10_daysLeft 60 x1 (M.1 0 17) M).bind fun (r3 : Int32) =>
  some r3))
set_option maxHeartbeats 4000000 in
theorem cX11_until_ok {E : zE} {d : Nat} (hd : 2 ≤ d) (x1 : Int32) (M : zM) {K : Int32 → Prop} (h : wpO (fX11_until x1 M) K) : CMi E d yX11_until cX11_until 2 (some .int) [.ref 0, .int x1] M (fun r N => M = N ∧ K r) := by
  refine CMi.of (by decide) (Nat.le_of_ble_eq_true rfl) (fun Γ hC hr => ?_)
  have hC : Cx E Γ RX11 cX11_until 2 d := hC
  show G E Γ 2 0 [(0, .ref 0), (1, .int x1)] [] M
  unfold fX11_until at h
  refine g_aload_n (i := 0) (x := 0) hC (dX11_until_0) rfl rfl ?_
  refine g_iload_n (i := 1) (x := x1) hC (dX11_until_1) rfl rfl ?_
  refine g_callVi ([.int x1]) hC wvX11_166 (dX11_until_2) rfl rfl (by omega) (Nat.le_of_ble_eq_true rfl) (cX11_isThing_ok (by omega) x1 M (K := fun r => r = fX11_isThing x1 M) rfl) (fun r N q => ?_)
  obtain ⟨rfl, rfl⟩ := q
  refine g_if_ne (tgt := 10) hC (dX11_until_5) (by decide) (fun c5 => ?_) (fun c5 => ?_)
  · have h := wpO_f c5 h
    refine g_aload_n (i := 0) (x := 0) hC (dX11_until_10) rfl rfl ?_
    refine g_getR (r := 60) hC flX11_33 (dX11_until_11) rfl rfl rfl ?_
    refine g_iload_n (i := 1) (x := x1) hC (dX11_until_14) rfl rfl ?_
    have h := wpO_b h
    refine g_callVi ([.int x1]) hC wvX11_316 (dX11_until_15) rfl rfl (by omega) (Nat.le_of_ble_eq_true rfl) (cX10_isIn_ok (by omega) 60 x1 M h) (fun r2 N q => ?_)
    obtain ⟨rfl, h⟩ := q
    refine g_if_eq (tgt := 36) hC (dX11_until_18) (by decide) (fun c18 => ?_) (fun c18 => ?_)
    · have h := wpO_t c18 h
      refine g_bipush (v := (-2)) hC (dX11_until_36) kb_m2 ?_
      refine g_ireturn hC hr (dX11_until_38) ?_
      exact ⟨rfl, wpO_s h⟩
    · have h := wpO_f c18 h
      refine g_aload_n (i := 0) (x := 0) hC (dX11_until_21) rfl rfl ?_
      refine g_getR (r := 60) hC flX11_33 (dX11_until_22) rfl rfl rfl ?_
      refine g_iload_n (i := 1) (x := x1) hC (dX11_until_25) rfl rfl ?_
      refine g_aload_n (i := 0) (x := 0) hC (dX11_until_26) rfl rfl ?_
      refine g_getI hC flX11_110 (dX11_until_27) rfl rfl ?_
      have h := wpO_b h
      refine g_callVi ([.int x1, .int (M.1 0 17)]) hC wvX11_319 (dX11_until_30) rfl rfl (by omega) (Nat.le_of_ble_eq_true rfl) (cX10_daysLeft_ok (by omega) 60 x1 (M.1 0 17) M h) (fun r3 N q => ?_)
      obtain ⟨rfl, h⟩ := q
      refine g_goto (tgt := 38) hC (dX11_until_33) (by decide) ?_
      refine g_ireturn hC hr (dX11_until_38) ?_
      exact ⟨rfl, wpO_s h⟩
  · have h := wpO_t c5 h
    refine g_iconst (v := (-1)) hC (dX11_until_8) kc_m1 ?_
    refine g_ireturn hC hr (dX11_until_9) ?_
    exact ⟨rfl, wpO_s h⟩
/-! LostByState.later(I)I -/
theorem dX11_later_0 : decode cX11_later 0 = .ok (.iload_n 1, 1) := by decide +kernel
theorem dX11_later_1 : decode cX11_later 1 = .ok (.invokestatic 217, 3) := by decide +kernel
theorem dX11_later_4 : decode cX11_later 4 = .ok (.ifCond .ne 5, 3) := by decide +kernel
theorem dX11_later_7 : decode cX11_later 7 = .ok (.iconst (-1), 1) := by decide +kernel
theorem dX11_later_8 : decode cX11_later 8 = .ok (.ireturn, 1) := by decide +kernel
theorem dX11_later_9 : decode cX11_later 9 = .ok (.aload_n 0, 1) := by decide +kernel
theorem dX11_later_10 : decode cX11_later 10 = .ok (.getfield 37, 3) := by decide +kernel
theorem dX11_later_13 : decode cX11_later 13 = .ok (.aload_n 0, 1) := by decide +kernel
theorem dX11_later_14 : decode cX11_later 14 = .ok (.getfield 33, 3) := by decide +kernel
theorem dX11_later_17 : decode cX11_later 17 = .ok (.invokevirtual 322, 3) := by decide +kernel
theorem dX11_later_20 : decode cX11_later 20 = .ok (.aload_n 0, 1) := by decide +kernel
theorem dX11_later_21 : decode cX11_later 21 = .ok (.getfield 37, 3) := by decide +kernel
theorem dX11_later_24 : decode cX11_later 24 = .ok (.iload_n 1, 1) := by decide +kernel
theorem dX11_later_25 : decode cX11_later 25 = .ok (.aload_n 0, 1) := by decide +kernel
theorem dX11_later_26 : decode cX11_later 26 = .ok (.getfield 110, 3) := by decide +kernel
theorem dX11_later_29 : decode cX11_later 29 = .ok (.invokevirtual 224, 3) := by decide +kernel
theorem dX11_later_32 : decode cX11_later 32 = .ok (.pop, 1) := by decide +kernel
theorem dX11_later_33 : decode cX11_later 33 = .ok (.iconst 0, 1) := by decide +kernel
theorem dX11_later_34 : decode cX11_later 34 = .ok (.istore_n 2, 1) := by decide +kernel
theorem dX11_later_35 : decode cX11_later 35 = .ok (.iconst 0, 1) := by decide +kernel
theorem dX11_later_36 : decode cX11_later 36 = .ok (.istore_n 3, 1) := by decide +kernel
theorem dX11_later_37 : decode cX11_later 37 = .ok (.iload_n 3, 1) := by decide +kernel
theorem dX11_later_38 : decode cX11_later 38 = .ok (.bipush 6, 2) := by decide +kernel
theorem dX11_later_40 : decode cX11_later 40 = .ok (.if_icmp .ge 26, 3) := by decide +kernel
theorem dX11_later_43 : decode cX11_later 43 = .ok (.aload_n 0, 1) := by decide +kernel
theorem dX11_later_44 : decode cX11_later 44 = .ok (.getfield 37, 3) := by decide +kernel
theorem dX11_later_47 : decode cX11_later 47 = .ok (.iload_n 3, 1) := by decide +kernel
theorem dX11_later_48 : decode cX11_later 48 = .ok (.invokevirtual 204, 3) := by decide +kernel
theorem dX11_later_51 : decode cX11_later 51 = .ok (.ifCond .eq 9, 3) := by decide +kernel
theorem dX11_later_54 : decode cX11_later 54 = .ok (.iload_n 2, 1) := by decide +kernel
theorem dX11_later_55 : decode cX11_later 55 = .ok (.iconst 1, 1) := by decide +kernel
theorem dX11_later_56 : decode cX11_later 56 = .ok (.iload_n 3, 1) := by decide +kernel
theorem dX11_later_57 : decode cX11_later 57 = .ok (.ishl, 1) := by decide +kernel
theorem dX11_later_58 : decode cX11_later 58 = .ok (.ior, 1) := by decide +kernel
theorem dX11_later_59 : decode cX11_later 59 = .ok (.istore_n 2, 1) := by decide +kernel
theorem dX11_later_60 : decode cX11_later 60 = .ok (.iinc 3 1, 3) := by decide +kernel
theorem dX11_later_63 : decode cX11_later 63 = .ok (.goto (-26), 3) := by decide +kernel
theorem dX11_later_66 : decode cX11_later 66 = .ok (.aload_n 0, 1) := by decide +kernel
theorem dX11_later_67 : decode cX11_later 67 = .ok (.getfield 19, 3) := by decide +kernel
theorem dX11_later_70 : decode cX11_later 70 = .ok (.invokevirtual 230, 3) := by decide +kernel
theorem dX11_later_73 : decode cX11_later 73 = .ok (.aload_n 0, 1) := by decide +kernel
theorem dX11_later_74 : decode cX11_later 74 = .ok (.getfield 19, 3) := by decide +kernel
theorem dX11_later_77 : decode cX11_later 77 = .ok (.aload_n 0, 1) := by decide +kernel
theorem dX11_later_78 : decode cX11_later 78 = .ok (.getfield 37, 3) := by decide +kernel
theorem dX11_later_81 : decode cX11_later 81 = .ok (.bipush 6, 2) := by decide +kernel
theorem dX11_later_83 : decode cX11_later 83 = .ok (.invokevirtual 204, 3) := by decide +kernel
theorem dX11_later_86 : decode cX11_later 86 = .ok (.i2l, 1) := by decide +kernel
theorem dX11_later_87 : decode cX11_later 87 = .ok (.invokevirtual 233, 3) := by decide +kernel
theorem dX11_later_90 : decode cX11_later 90 = .ok (.aload_n 0, 1) := by decide +kernel
theorem dX11_later_91 : decode cX11_later 91 = .ok (.getfield 19, 3) := by decide +kernel
theorem dX11_later_94 : decode cX11_later 94 = .ok (.iload_n 2, 1) := by decide +kernel
theorem dX11_later_95 : decode cX11_later 95 = .ok (.i2l, 1) := by decide +kernel
theorem dX11_later_96 : decode cX11_later 96 = .ok (.invokevirtual 233, 3) := by decide +kernel
theorem dX11_later_99 : decode cX11_later 99 = .ok (.aload_n 0, 1) := by decide +kernel
theorem dX11_later_100 : decode cX11_later 100 = .ok (.getfield 37, 3) := by decide +kernel
theorem dX11_later_103 : decode cX11_later 103 = .ok (.invokevirtual 304, 3) := by decide +kernel
theorem dX11_later_106 : decode cX11_later 106 = .ok (.ireturn, 1) := by decide +kernel
def fX11_later_L37 (M : zM) : Nat → Int32 → Int32 → Option Int32
  | 0, _, _ => none
  | n + 1, x2, x3 => if 6 ≤ x3 then (
    some x2)
    else (
    (fX10_heldBy 65 x3 M).bind fun (r4 : Int32) =>
    zlet (if r4 = 0 then (
    x2)
    else (
    zlet (x2 ||| (zshl 1 x3)) fun (x2_59 : Int32) =>
    x2_59)) fun (x2_60 : Int32) =>
    fX11_later_L37 M n x2_60 (x3 + 1))
def fX11_later (x1 : Int32) (M : zM) : Option (Int32 × zM) := if (fX11_isSpan x1) = 0 then (
  some ((-1), M))
  else (
  (fX10_become 65 60 M).bind fun (M17 : zM) =>
  (fX10_passDays 65 x1 (M17.1 0 17) M17).bind fun (q : Int32 × zM) => zp q fun r3 M29 =>
  (fX11_later_L37 M29 4000 0 0).bind fun (x2_66 : Int32) =>
  zlet (fX3_begin M29) fun (M70 : zM) =>
  (fX10_heldBy 65 6 M70).bind fun (r7 : Int32) =>
  (fX3_tell r7.toInt64 M70).bind fun (M87 : zM) =>
  (fX3_tell x2_66.toInt64 M87).bind fun (M96 : zM) =>
  (fX10_inside 65 M96).bind fun (r10 : Int32) =>
  some (r10, M96))
set_option maxHeartbeats 4000000 in
theorem lX11_later_37 {E : zE} {Γ : zT} {d : Nat} {K1 : Int32 → Prop} (hC : Cx E Γ RX11 cX11_later 4 d) (hd : 3 ≤ d) (M : zM) (hx : ∀ (x2_66 : Int32), K1 x2_66 → G E Γ 4 66 [(0, .ref 0), (2, .int x2_66)] [] M) :
    ∀ (n : Nat) (x2 : Int32) (x3 : Int32), wpO (fX11_later_L37 M n x2 x3) K1 → G E Γ 4 37 [(0, .ref 0), (2, .int x2), (3, .int x3)] [] M := by
  intro n
  induction n with
  | zero =>
    intro x2 x3 h
    exact (wpO_0 h).elim
  | succ n ih =>
    intro x2 x3 h
    rw [fX11_later_L37.eq_2] at h
    refine g_iload_n (i := 3) (x := x3) hC (dX11_later_37) rfl rfl ?_
    refine g_bipush (v := 6) hC (dX11_later_38) kb_6 ?_
    refine g_icmp_ge (tgt := 66) hC (dX11_later_40) (by decide) (fun c40 => ?_) (fun c40 => ?_)
    · have h := wpO_t c40 h
      refine g_sub (lv' := [(0, .ref 0), (2, .int x2)]) [0, 1] rfl ?_
      exact hx _ (wpO_s h)
    · have h := wpO_f c40 h
      refine g_aload_n (i := 0) (x := 0) hC (dX11_later_43) rfl rfl ?_
      refine g_getR (r := 65) hC flX11_37 (dX11_later_44) rfl rfl rfl ?_
      refine g_iload_n (i := 3) (x := x3) hC (dX11_later_47) rfl rfl ?_
      have h := wpO_b h
      refine g_callVi ([.int x3]) hC wvX11_204 (dX11_later_48) rfl rfl (by omega) (Nat.le_of_ble_eq_true rfl) (cX10_heldBy_ok (by omega) 65 x3 M h) (fun r4 N q => ?_)
      obtain ⟨rfl, h⟩ := q
      obtain ⟨x2_60, e_x2_60, h⟩ := wpO_l h
      have hJ5 : G E Γ 4 60 [(0, .ref 0), (2, .int x2_60), (3, .int x3)] [] M := by
        refine g_iinc (x := x3) (v := (x3 + 1)) (lv2 := [(3, .int (x3 + 1)), (0, .ref 0), (2, .int x2_60)]) hC (dX11_later_60) rfl rfl (by decide) rfl ?_
        refine g_goto (tgt := 37) hC (dX11_later_63) (by decide) ?_
        refine g_sub (lv' := [(0, .ref 0), (2, .int x2_60), (3, .int (x3 + 1))]) [1, 2, 0] rfl ?_
        exact ih _ _ h
      refine g_if_eq (tgt := 60) hC (dX11_later_51) (by decide) (fun c51 => ?_) (fun c51 => ?_)
      · rw [if_pos c51] at e_x2_60
        subst e_x2_60
        exact hJ5
      · rw [if_neg c51] at e_x2_60
        refine g_iload_n (i := 2) (x := x2) hC (dX11_later_54) rfl rfl ?_
        refine g_iconst (v := 1) hC (dX11_later_55) kc_1 ?_
        refine g_iload_n (i := 3) (x := x3) hC (dX11_later_56) rfl rfl ?_
        refine g_ishl hC (dX11_later_57) ?_
        refine g_ior hC (dX11_later_58) ?_
        refine g_nmi (fun x2_59 e_x2_59 => ?_)
        have e_x2_60 := zle e_x2_59 e_x2_60
        refine g_istore_n (i := 2) (lv2 := [(2, .int x2_59), (0, .ref 0), (3, .int x3)]) hC (dX11_later_59) rfl (by decide) rfl ?_
        refine g_sub (lv' := [(0, .ref 0), (2, .int x2_59), (3, .int x3)]) [1, 0, 2] rfl ?_
        subst e_x2_60
        exact hJ5
set_option maxHeartbeats 4000000 in
theorem cX11_later_ok {E : zE} {d : Nat} (hd : 3 ≤ d) (x1 : Int32) (M : zM) {K : (Int32 × zM) → Prop} (h : wpO (fX11_later x1 M) K) : CMi E d yX11_later cX11_later 4 (some .int) [.ref 0, .int x1] M (fun r N => K (r, N)) := by
  refine CMi.of (by decide) (Nat.le_of_ble_eq_true rfl) (fun Γ hC hr => ?_)
  have hC : Cx E Γ RX11 cX11_later 4 d := hC
  show G E Γ 4 0 [(0, .ref 0), (1, .int x1)] [] M
  unfold fX11_later at h
  refine g_iload_n (i := 1) (x := x1) hC (dX11_later_0) rfl rfl ?_
  refine g_callSi ([.int x1]) hC wsX11_217 (dX11_later_1) rfl (by omega) (Nat.le_of_ble_eq_true rfl) (cX11_isSpan_ok (by omega) x1 M (K := fun r => r = fX11_isSpan x1) rfl) (fun r N q => ?_)
  obtain ⟨rfl, rfl⟩ := q
  refine g_if_ne (tgt := 9) hC (dX11_later_4) (by decide) (fun c4 => ?_) (fun c4 => ?_)
  · have h := wpO_f c4 h
    refine g_aload_n (i := 0) (x := 0) hC (dX11_later_9) rfl rfl ?_
    refine g_getR (r := 65) hC flX11_37 (dX11_later_10) rfl rfl rfl ?_
    refine g_aload_n (i := 0) (x := 0) hC (dX11_later_13) rfl rfl ?_
    refine g_getR (r := 60) hC flX11_33 (dX11_later_14) rfl rfl rfl ?_
    have h := wpO_b h
    refine g_callVv ([.ref 60]) hC wvX11_322 (dX11_later_17) rfl rfl (by omega) (Nat.le_of_ble_eq_true rfl) (cX10_become_ok (by omega) 65 60 M h) (fun M17 h => ?_)
    refine g_aload_n (i := 0) (x := 0) hC (dX11_later_20) rfl rfl ?_
    refine g_getR (r := 65) hC flX11_37 (dX11_later_21) rfl rfl rfl ?_
    refine g_iload_n (i := 1) (x := x1) hC (dX11_later_24) rfl rfl ?_
    refine g_aload_n (i := 0) (x := 0) hC (dX11_later_25) rfl rfl ?_
    refine g_getI hC flX11_110 (dX11_later_26) rfl rfl ?_
    have h := wpO_b h
    refine g_callVi ([.int x1, .int (M17.1 0 17)]) hC wvX11_224 (dX11_later_29) rfl rfl (by omega) (Nat.le_of_ble_eq_true rfl) (cX10_passDays_ok (by omega) 65 x1 (M17.1 0 17) M17 h) (fun r3 M29 h => ?_)
    have h := wpO_p h
    refine g_pop hC (dX11_later_32) rfl ?_
    refine g_iconst (v := 0) hC (dX11_later_33) kc_0 ?_
    refine g_istore_n (i := 2) (lv2 := [(2, .int 0), (0, .ref 0), (1, .int x1)]) hC (dX11_later_34) rfl (by decide) rfl ?_
    refine g_iconst (v := 0) hC (dX11_later_35) kc_0 ?_
    refine g_istore_n (i := 3) (lv2 := [(3, .int 0), (2, .int 0), (0, .ref 0), (1, .int x1)]) hC (dX11_later_36) rfl (by decide) rfl ?_
    refine g_sub (lv' := [(0, .ref 0), (2, .int 0), (3, .int 0)]) [2, 1, 0] rfl ?_
    refine wpO_bJ h (fun KL37 hKL37 h => ?_)
    refine lX11_later_37 (K1 := KL37) hC (by omega) M29 (fun x2_66 h => ?_) _ _ _ h
    have h := hKL37 _ h
    refine g_aload_n (i := 0) (x := 0) hC (dX11_later_66) rfl rfl ?_
    refine g_getR (r := 3) hC flX11_19 (dX11_later_67) rfl rfl rfl ?_
    refine g_callVv ([]) hC wvX11_230 (dX11_later_70) rfl rfl (by omega) (Nat.le_of_ble_eq_true rfl) (cX3_begin_ok (by omega) M29 (K := fun r => r = fX3_begin M29) rfl) (fun N q => ?_)
    subst q
    refine g_nmM (fun M70 e_M70 => ?_)
    have h := wpO_n e_M70 h
    refine g_aload_n (i := 0) (x := 0) hC (dX11_later_73) rfl rfl ?_
    refine g_getR (r := 3) hC flX11_19 (dX11_later_74) rfl rfl rfl ?_
    refine g_aload_n (i := 0) (x := 0) hC (dX11_later_77) rfl rfl ?_
    refine g_getR (r := 65) hC flX11_37 (dX11_later_78) rfl rfl rfl ?_
    refine g_bipush (v := 6) hC (dX11_later_81) kb_6 ?_
    have h := wpO_b h
    refine g_callVi ([.int 6]) hC wvX11_204 (dX11_later_83) rfl rfl (by omega) (Nat.le_of_ble_eq_true rfl) (cX10_heldBy_ok (by omega) 65 6 M70 h) (fun r7 N q => ?_)
    obtain ⟨rfl, h⟩ := q
    refine g_i2l hC (dX11_later_86) ?_
    have h := wpO_b h
    refine g_callVv ([.long r7.toInt64]) hC wvX11_233 (dX11_later_87) rfl rfl (by omega) (Nat.le_of_ble_eq_true rfl) (cX3_tell_ok (by omega) r7.toInt64 M70 h) (fun M87 h => ?_)
    refine g_aload_n (i := 0) (x := 0) hC (dX11_later_90) rfl rfl ?_
    refine g_getR (r := 3) hC flX11_19 (dX11_later_91) rfl rfl rfl ?_
    refine g_iload_n (i := 2) (x := x2_66) hC (dX11_later_94) rfl rfl ?_
    refine g_i2l hC (dX11_later_95) ?_
    have h := wpO_b h
    refine g_callVv ([.long x2_66.toInt64]) hC wvX11_233 (dX11_later_96) rfl rfl (by omega) (Nat.le_of_ble_eq_true rfl) (cX3_tell_ok (by omega) x2_66.toInt64 M87 h) (fun M96 h => ?_)
    refine g_aload_n (i := 0) (x := 0) hC (dX11_later_99) rfl rfl ?_
    refine g_getR (r := 65) hC flX11_37 (dX11_later_100) rfl rfl rfl ?_
    have h := wpO_b h
    refine g_callVi ([]) hC wvX11_304 (dX11_later_103) rfl rfl (by omega) (Nat.le_of_ble_eq_true rfl) (cX10_inside_ok (by omega) 65 M96 h) (fun r10 N q => ?_)
    obtain ⟨rfl, h⟩ := q
    refine g_ireturn hC hr (dX11_later_106) ?_
    exact wpO_s h
  · have h := wpO_t c4 h
    refine g_iconst (v := (-1)) hC (dX11_later_7) kc_m1 ?_
    refine g_ireturn hC hr (dX11_later_8) ?_
    exact wpO_s h
/-! LostByState.advantage()I -/
theorem dX11_advantage_0 : decode cX11_advantage 0 = .ok (.iconst 0, 1) := by decide +kernel
theorem dX11_advantage_1 : decode cX11_advantage 1 = .ok (.istore_n 1, 1) := by decide +kernel
theorem dX11_advantage_2 : decode cX11_advantage 2 = .ok (.aload_n 0, 1) := by decide +kernel
theorem dX11_advantage_3 : decode cX11_advantage 3 = .ok (.getfield 26, 3) := by decide +kernel
theorem dX11_advantage_6 : decode cX11_advantage 6 = .ok (.aload_n 0, 1) := by decide +kernel
theorem dX11_advantage_7 : decode cX11_advantage 7 = .ok (.getfield 33, 3) := by decide +kernel
theorem dX11_advantage_10 : decode cX11_advantage 10 = .ok (.iconst 0, 1) := by decide +kernel
theorem dX11_advantage_11 : decode cX11_advantage 11 = .ok (.invokevirtual 204, 3) := by decide +kernel
theorem dX11_advantage_14 : decode cX11_advantage 14 = .ok (.invokevirtual 324, 3) := by decide +kernel
theorem dX11_advantage_17 : decode cX11_advantage 17 = .ok (.istore_n 2, 1) := by decide +kernel
theorem dX11_advantage_18 : decode cX11_advantage 18 = .ok (.iconst 1, 1) := by decide +kernel
theorem dX11_advantage_19 : decode cX11_advantage 19 = .ok (.istore_n 3, 1) := by decide +kernel
theorem dX11_advantage_20 : decode cX11_advantage 20 = .ok (.iload_n 3, 1) := by decide +kernel
theorem dX11_advantage_21 : decode cX11_advantage 21 = .ok (.bipush 6, 2) := by decide +kernel
theorem dX11_advantage_23 : decode cX11_advantage 23 = .ok (.if_icmp .ge 37, 3) := by decide +kernel
theorem dX11_advantage_26 : decode cX11_advantage 26 = .ok (.aload_n 0, 1) := by decide +kernel
theorem dX11_advantage_27 : decode cX11_advantage 27 = .ok (.getfield 26, 3) := by decide +kernel
theorem dX11_advantage_30 : decode cX11_advantage 30 = .ok (.aload_n 0, 1) := by decide +kernel
theorem dX11_advantage_31 : decode cX11_advantage 31 = .ok (.getfield 33, 3) := by decide +kernel
theorem dX11_advantage_34 : decode cX11_advantage 34 = .ok (.iload_n 3, 1) := by decide +kernel
theorem dX11_advantage_35 : decode cX11_advantage 35 = .ok (.invokevirtual 204, 3) := by decide +kernel
theorem dX11_advantage_38 : decode cX11_advantage 38 = .ok (.invokevirtual 324, 3) := by decide +kernel
theorem dX11_advantage_41 : decode cX11_advantage 41 = .ok (.istore 4, 2) := by decide +kernel
theorem dX11_advantage_43 : decode cX11_advantage 43 = .ok (.iload 4, 2) := by decide +kernel
theorem dX11_advantage_45 : decode cX11_advantage 45 = .ok (.iload_n 2, 1) := by decide +kernel
theorem dX11_advantage_46 : decode cX11_advantage 46 = .ok (.if_icmp .le 8, 3) := by decide +kernel
theorem dX11_advantage_49 : decode cX11_advantage 49 = .ok (.iload 4, 2) := by decide +kernel
theorem dX11_advantage_51 : decode cX11_advantage 51 = .ok (.istore_n 2, 1) := by decide +kernel
theorem dX11_advantage_52 : decode cX11_advantage 52 = .ok (.iload_n 3, 1) := by decide +kernel
theorem dX11_advantage_53 : decode cX11_advantage 53 = .ok (.istore_n 1, 1) := by decide +kernel
theorem dX11_advantage_54 : decode cX11_advantage 54 = .ok (.iinc 3 1, 3) := by decide +kernel
theorem dX11_advantage_57 : decode cX11_advantage 57 = .ok (.goto (-37), 3) := by decide +kernel
theorem dX11_advantage_60 : decode cX11_advantage 60 = .ok (.aload_n 0, 1) := by decide +kernel
theorem dX11_advantage_61 : decode cX11_advantage 61 = .ok (.getfield 19, 3) := by decide +kernel
theorem dX11_advantage_64 : decode cX11_advantage 64 = .ok (.invokevirtual 230, 3) := by decide +kernel
theorem dX11_advantage_67 : decode cX11_advantage 67 = .ok (.aload_n 0, 1) := by decide +kernel
theorem dX11_advantage_68 : decode cX11_advantage 68 = .ok (.getfield 19, 3) := by decide +kernel
theorem dX11_advantage_71 : decode cX11_advantage 71 = .ok (.iload_n 2, 1) := by decide +kernel
theorem dX11_advantage_72 : decode cX11_advantage 72 = .ok (.i2l, 1) := by decide +kernel
theorem dX11_advantage_73 : decode cX11_advantage 73 = .ok (.invokevirtual 233, 3) := by decide +kernel
theorem dX11_advantage_76 : decode cX11_advantage 76 = .ok (.aload_n 0, 1) := by decide +kernel
theorem dX11_advantage_77 : decode cX11_advantage 77 = .ok (.getfield 19, 3) := by decide +kernel
theorem dX11_advantage_80 : decode cX11_advantage 80 = .ok (.aload_n 0, 1) := by decide +kernel
theorem dX11_advantage_81 : decode cX11_advantage 81 = .ok (.getfield 33, 3) := by decide +kernel
theorem dX11_advantage_84 : decode cX11_advantage 84 = .ok (.iload_n 1, 1) := by decide +kernel
theorem dX11_advantage_85 : decode cX11_advantage 85 = .ok (.invokevirtual 204, 3) := by decide +kernel
theorem dX11_advantage_88 : decode cX11_advantage 88 = .ok (.i2l, 1) := by decide +kernel
theorem dX11_advantage_89 : decode cX11_advantage 89 = .ok (.invokevirtual 233, 3) := by decide +kernel
theorem dX11_advantage_92 : decode cX11_advantage 92 = .ok (.iload_n 1, 1) := by decide +kernel
theorem dX11_advantage_93 : decode cX11_advantage 93 = .ok (.ireturn, 1) := by decide +kernel
def fX11_advantage_L20 (M : zM) : Nat → Int32 → Int32 → Int32 → Option (Int32 × Int32)
  | 0, _, _, _ => none
  | n + 1, x1, x2, x3 => if 6 ≤ x3 then (
    some (x1, x2))
    else (
    (fX10_heldBy 60 x3 M).bind fun (r3 : Int32) =>
    (fX7_worthOf r3 M).bind fun (r4 : Int32) =>
    zlet (if r4 ≤ x2 then (
    x1)
    else (
    x3)) fun (x1_54 : Int32) =>
    zlet (if r4 ≤ x2 then (
    x2)
    else (
    r4)) fun (x2_54 : Int32) =>
    fX11_advantage_L20 M n x1_54 x2_54 (x3 + 1))
def fX11_advantage  (M : zM) : Option (Int32 × zM) := (fX10_heldBy 60 0 M).bind fun (r1 : Int32) =>
  (fX7_worthOf r1 M).bind fun (r2 : Int32) =>
  (fX11_advantage_L20 M 4000 0 r2 1).bind fun (q : Int32 × Int32) => zp q fun x1_60 x2_60 =>
  zlet (fX3_begin M) fun (M64 : zM) =>
  (fX3_tell x2_60.toInt64 M64).bind fun (M73 : zM) =>
  (fX10_heldBy 60 x1_60 M73).bind fun (r8 : Int32) =>
  (fX3_tell r8.toInt64 M73).bind fun (M89 : zM) =>
  some (x1_60, M89)
set_option maxHeartbeats 4000000 in
theorem lX11_advantage_20 {E : zE} {Γ : zT} {d : Nat} {K1 : (Int32 × Int32) → Prop} (hC : Cx E Γ RX11 cX11_advantage 5 d) (hd : 2 ≤ d) (M : zM) (hx : ∀ (x1_60 : Int32) (x2_60 : Int32), K1 (x1_60, x2_60) → G E Γ 5 60 [(0, .ref 0), (1, .int x1_60), (2, .int x2_60)] [] M) :
    ∀ (n : Nat) (x1 : Int32) (x2 : Int32) (x3 : Int32), wpO (fX11_advantage_L20 M n x1 x2 x3) K1 → G E Γ 5 20 [(0, .ref 0), (1, .int x1), (2, .int x2), (3, .int x3)] [] M := by
  intro n
  induction n with
  | zero =>
    intro x1 x2 x3 h
    exact (wpO_0 h).elim
  | succ n ih =>
    intro x1 x2 x3 h
    rw [fX11_advantage_L20.eq_2] at h
    refine g_iload_n (i := 3) (x := x3) hC (dX11_advantage_20) rfl rfl ?_
    refine g_bipush (v := 6) hC (dX11_advantage_21) kb_6 ?_
    refine g_icmp_ge (tgt := 60) hC (dX11_advantage_23) (by decide) (fun c23 => ?_) (fun c23 => ?_)
    · have h := wpO_t c23 h
      refine g_sub (lv' := [(0, .ref 0), (1, .int x1), (2, .int x2)]) [0, 1, 2] rfl ?_
      exact hx _ _ (wpO_s h)
    · have h := wpO_f c23 h
      refine g_aload_n (i := 0) (x := 0) hC (dX11_advantage_26) rfl rfl ?_
      refine g_getR (r := 5) hC flX11_26 (dX11_advantage_27) rfl rfl rfl ?_
      refine g_aload_n (i := 0) (x := 0) hC (dX11_advantage_30) rfl rfl ?_
      refine g_getR (r := 60) hC flX11_33 (dX11_advantage_31) rfl rfl rfl ?_
      refine g_iload_n (i := 3) (x := x3) hC (dX11_advantage_34) rfl rfl ?_
      have h := wpO_b h
      refine g_callVi ([.int x3]) hC wvX11_204 (dX11_advantage_35) rfl rfl (by omega) (Nat.le_of_ble_eq_true rfl) (cX10_heldBy_ok (by omega) 60 x3 M h) (fun r3 N q => ?_)
      obtain ⟨rfl, h⟩ := q
      have h := wpO_b h
      refine g_callVi ([.int r3]) hC wvX11_324 (dX11_advantage_38) rfl rfl (by omega) (Nat.le_of_ble_eq_true rfl) (cX7_worthOf_ok (by omega) r3 M h) (fun r4 N q => ?_)
      obtain ⟨rfl, h⟩ := q
      refine g_istore (i := 4) (lv2 := [(4, .int r4), (0, .ref 0), (1, .int x1), (2, .int x2), (3, .int x3)]) hC (dX11_advantage_41) (by decide) rfl ?_
      refine g_iload (i := 4) (x := r4) hC (dX11_advantage_43) rfl ?_
      refine g_iload_n (i := 2) (x := x2) hC (dX11_advantage_45) rfl rfl ?_
      obtain ⟨x1_54, e_x1_54, h⟩ := wpO_l h
      obtain ⟨x2_54, e_x2_54, h⟩ := wpO_l h
      have hJ5 : G E Γ 5 54 [(0, .ref 0), (1, .int x1_54), (2, .int x2_54), (3, .int x3)] [] M := by
        refine g_iinc (x := x3) (v := (x3 + 1)) (lv2 := [(3, .int (x3 + 1)), (0, .ref 0), (1, .int x1_54), (2, .int x2_54)]) hC (dX11_advantage_54) rfl rfl (by decide) rfl ?_
        refine g_goto (tgt := 20) hC (dX11_advantage_57) (by decide) ?_
        refine g_sub (lv' := [(0, .ref 0), (1, .int x1_54), (2, .int x2_54), (3, .int (x3 + 1))]) [1, 2, 3, 0] rfl ?_
        exact ih _ _ _ h
      refine g_icmp_le (tgt := 54) hC (dX11_advantage_46) (by decide) (fun c46 => ?_) (fun c46 => ?_)
      · rw [if_pos c46] at e_x1_54 e_x2_54
        refine g_sub (lv' := [(0, .ref 0), (1, .int x1), (2, .int x2), (3, .int x3)]) [1, 2, 3, 4] rfl ?_
        subst e_x1_54
        subst e_x2_54
        exact hJ5
      · rw [if_neg c46] at e_x1_54 e_x2_54
        refine g_iload (i := 4) (x := r4) hC (dX11_advantage_49) rfl ?_
        refine g_istore_n (i := 2) (lv2 := [(2, .int r4), (4, .int r4), (0, .ref 0), (1, .int x1), (3, .int x3)]) hC (dX11_advantage_51) rfl (by decide) rfl ?_
        refine g_iload_n (i := 3) (x := x3) hC (dX11_advantage_52) rfl rfl ?_
        refine g_istore_n (i := 1) (lv2 := [(1, .int x3), (2, .int r4), (4, .int r4), (0, .ref 0), (3, .int x3)]) hC (dX11_advantage_53) rfl (by decide) rfl ?_
        refine g_sub (lv' := [(0, .ref 0), (1, .int x3), (2, .int r4), (3, .int x3)]) [3, 0, 1, 4] rfl ?_
        subst e_x1_54
        subst e_x2_54
        exact hJ5
set_option maxHeartbeats 4000000 in
theorem cX11_advantage_ok {E : zE} {d : Nat} (hd : 2 ≤ d)  (M : zM) {K : (Int32 × zM) → Prop} (h : wpO (fX11_advantage  M) K) : CMi E d yX11_advantage cX11_advantage 5 (some .int) [.ref 0] M (fun r N => K (r, N)) := by
  refine CMi.of (by decide) (Nat.le_of_ble_eq_true rfl) (fun Γ hC hr => ?_)
  have hC : Cx E Γ RX11 cX11_advantage 5 d := hC
  show G E Γ 5 0 [(0, .ref 0)] [] M
  unfold fX11_advantage at h
  refine g_iconst (v := 0) hC (dX11_advantage_0) kc_0 ?_
  refine g_istore_n (i := 1) (lv2 := [(1, .int 0), (0, .ref 0)]) hC (dX11_advantage_1) rfl (by decide) rfl ?_
  refine g_aload_n (i := 0) (x := 0) hC (dX11_advantage_2) rfl rfl ?_
  refine g_getR (r := 5) hC flX11_26 (dX11_advantage_3) rfl rfl rfl ?_
  refine g_aload_n (i := 0) (x := 0) hC (dX11_advantage_6) rfl rfl ?_
  refine g_getR (r := 60) hC flX11_33 (dX11_advantage_7) rfl rfl rfl ?_
  refine g_iconst (v := 0) hC (dX11_advantage_10) kc_0 ?_
  have h := wpO_b h
  refine g_callVi ([.int 0]) hC wvX11_204 (dX11_advantage_11) rfl rfl (by omega) (Nat.le_of_ble_eq_true rfl) (cX10_heldBy_ok (by omega) 60 0 M h) (fun r1 N q => ?_)
  obtain ⟨rfl, h⟩ := q
  have h := wpO_b h
  refine g_callVi ([.int r1]) hC wvX11_324 (dX11_advantage_14) rfl rfl (by omega) (Nat.le_of_ble_eq_true rfl) (cX7_worthOf_ok (by omega) r1 M h) (fun r2 N q => ?_)
  obtain ⟨rfl, h⟩ := q
  refine g_istore_n (i := 2) (lv2 := [(2, .int r2), (1, .int 0), (0, .ref 0)]) hC (dX11_advantage_17) rfl (by decide) rfl ?_
  refine g_iconst (v := 1) hC (dX11_advantage_18) kc_1 ?_
  refine g_istore_n (i := 3) (lv2 := [(3, .int 1), (2, .int r2), (1, .int 0), (0, .ref 0)]) hC (dX11_advantage_19) rfl (by decide) rfl ?_
  refine g_sub (lv' := [(0, .ref 0), (1, .int 0), (2, .int r2), (3, .int 1)]) [3, 2, 1, 0] rfl ?_
  refine wpO_bJ h (fun KL20 hKL20 h => ?_)
  refine lX11_advantage_20 (K1 := KL20) hC (by omega) M (fun x1_60 x2_60 h => ?_) _ _ _ _ h
  have h := hKL20 _ h
  have h := wpO_p h
  refine g_aload_n (i := 0) (x := 0) hC (dX11_advantage_60) rfl rfl ?_
  refine g_getR (r := 3) hC flX11_19 (dX11_advantage_61) rfl rfl rfl ?_
  refine g_callVv ([]) hC wvX11_230 (dX11_advantage_64) rfl rfl (by omega) (Nat.le_of_ble_eq_true rfl) (cX3_begin_ok (by omega) M (K := fun r => r = fX3_begin M) rfl) (fun N q => ?_)
  subst q
  refine g_nmM (fun M64 e_M64 => ?_)
  have h := wpO_n e_M64 h
  refine g_aload_n (i := 0) (x := 0) hC (dX11_advantage_67) rfl rfl ?_
  refine g_getR (r := 3) hC flX11_19 (dX11_advantage_68) rfl rfl rfl ?_
  refine g_iload_n (i := 2) (x := x2_60) hC (dX11_advantage_71) rfl rfl ?_
  refine g_i2l hC (dX11_advantage_72) ?_
  have h := wpO_b h
  refine g_callVv ([.long x2_60.toInt64]) hC wvX11_233 (dX11_advantage_73) rfl rfl (by omega) (Nat.le_of_ble_eq_true rfl) (cX3_tell_ok (by omega) x2_60.toInt64 M64 h) (fun M73 h => ?_)
  refine g_aload_n (i := 0) (x := 0) hC (dX11_advantage_76) rfl rfl ?_
  refine g_getR (r := 3) hC flX11_19 (dX11_advantage_77) rfl rfl rfl ?_
  refine g_aload_n (i := 0) (x := 0) hC (dX11_advantage_80) rfl rfl ?_
  refine g_getR (r := 60) hC flX11_33 (dX11_advantage_81) rfl rfl rfl ?_
  refine g_iload_n (i := 1) (x := x1_60) hC (dX11_advantage_84) rfl rfl ?_
  have h := wpO_b h
  refine g_callVi ([.int x1_60]) hC wvX11_204 (dX11_advantage_85) rfl rfl (by omega) (Nat.le_of_ble_eq_true rfl) (cX10_heldBy_ok (by omega) 60 x1_60 M73 h) (fun r8 N q => ?_)
  obtain ⟨rfl, h⟩ := q
  refine g_i2l hC (dX11_advantage_88) ?_
  have h := wpO_b h
  refine g_callVv ([.long r8.toInt64]) hC wvX11_233 (dX11_advantage_89) rfl rfl (by omega) (Nat.le_of_ble_eq_true rfl) (cX3_tell_ok (by omega) r8.toInt64 M73 h) (fun M89 h => ?_)
  refine g_iload_n (i := 1) (x := x1_60) hC (dX11_advantage_92) rfl rfl ?_
  refine g_ireturn hC hr (dX11_advantage_93) ?_
  exact wpO_s h
/-! LostByState.soonest()I -/
theorem dX11_soonest_0 : decode cX11_soonest 0 = .ok (.iconst (-1), 1) := by decide +kernel
theorem dX11_soonest_1 : decode cX11_soonest 1 = .ok (.istore_n 1, 1) := by decide +kernel
theorem dX11_soonest_2 : decode cX11_soonest 2 = .ok (.bipush 100, 2) := by decide +kernel
theorem dX11_soonest_4 : decode cX11_soonest 4 = .ok (.istore_n 2, 1) := by decide +kernel
theorem dX11_soonest_5 : decode cX11_soonest 5 = .ok (.iconst 0, 1) := by decide +kernel
theorem dX11_soonest_6 : decode cX11_soonest 6 = .ok (.istore_n 3, 1) := by decide +kernel
theorem dX11_soonest_7 : decode cX11_soonest 7 = .ok (.iload_n 3, 1) := by decide +kernel
theorem dX11_soonest_8 : decode cX11_soonest 8 = .ok (.aload_n 0, 1) := by decide +kernel
theorem dX11_soonest_9 : decode cX11_soonest 9 = .ok (.getfield 26, 3) := by decide +kernel
theorem dX11_soonest_12 : decode cX11_soonest 12 = .ok (.getfield 135, 3) := by decide +kernel
theorem dX11_soonest_15 : decode cX11_soonest 15 = .ok (.if_icmp .ge 51, 3) := by decide +kernel
theorem dX11_soonest_18 : decode cX11_soonest 18 = .ok (.aload_n 0, 1) := by decide +kernel
theorem dX11_soonest_19 : decode cX11_soonest 19 = .ok (.getfield 33, 3) := by decide +kernel
theorem dX11_soonest_22 : decode cX11_soonest 22 = .ok (.iload_n 3, 1) := by decide +kernel
theorem dX11_soonest_23 : decode cX11_soonest 23 = .ok (.invokevirtual 316, 3) := by decide +kernel
theorem dX11_soonest_26 : decode cX11_soonest 26 = .ok (.ifCond .eq 34, 3) := by decide +kernel
theorem dX11_soonest_29 : decode cX11_soonest 29 = .ok (.aload_n 0, 1) := by decide +kernel
theorem dX11_soonest_30 : decode cX11_soonest 30 = .ok (.getfield 33, 3) := by decide +kernel
theorem dX11_soonest_33 : decode cX11_soonest 33 = .ok (.iload_n 3, 1) := by decide +kernel
theorem dX11_soonest_34 : decode cX11_soonest 34 = .ok (.aload_n 0, 1) := by decide +kernel
theorem dX11_soonest_35 : decode cX11_soonest 35 = .ok (.getfield 110, 3) := by decide +kernel
theorem dX11_soonest_38 : decode cX11_soonest 38 = .ok (.invokevirtual 319, 3) := by decide +kernel
theorem dX11_soonest_41 : decode cX11_soonest 41 = .ok (.iload_n 2, 1) := by decide +kernel
theorem dX11_soonest_42 : decode cX11_soonest 42 = .ok (.if_icmp .ge 18, 3) := by decide +kernel
theorem dX11_soonest_45 : decode cX11_soonest 45 = .ok (.aload_n 0, 1) := by decide +kernel
theorem dX11_soonest_46 : decode cX11_soonest 46 = .ok (.getfield 33, 3) := by decide +kernel
theorem dX11_soonest_49 : decode cX11_soonest 49 = .ok (.iload_n 3, 1) := by decide +kernel
theorem dX11_soonest_50 : decode cX11_soonest 50 = .ok (.aload_n 0, 1) := by decide +kernel
theorem dX11_soonest_51 : decode cX11_soonest 51 = .ok (.getfield 110, 3) := by decide +kernel
theorem dX11_soonest_54 : decode cX11_soonest 54 = .ok (.invokevirtual 319, 3) := by decide +kernel
theorem dX11_soonest_57 : decode cX11_soonest 57 = .ok (.istore_n 2, 1) := by decide +kernel
theorem dX11_soonest_58 : decode cX11_soonest 58 = .ok (.iload_n 3, 1) := by decide +kernel
theorem dX11_soonest_59 : decode cX11_soonest 59 = .ok (.istore_n 1, 1) := by decide +kernel
theorem dX11_soonest_60 : decode cX11_soonest 60 = .ok (.iinc 3 1, 3) := by decide +kernel
theorem dX11_soonest_63 : decode cX11_soonest 63 = .ok (.goto (-56), 3) := by decide +kernel
theorem dX11_soonest_66 : decode cX11_soonest 66 = .ok (.iload_n 1, 1) := by decide +kernel
theorem dX11_soonest_67 : decode cX11_soonest 67 = .ok (.ifCond .ge 6, 3) := by decide +kernel
theorem dX11_soonest_70 : decode cX11_soonest 70 = .ok (.bipush (-2), 2) := by decide +kernel
theorem dX11_soonest_72 : decode cX11_soonest 72 = .ok (.ireturn, 1) := by decide +kernel
theorem dX11_soonest_73 : decode cX11_soonest 73 = .ok (.aload_n 0, 1) := by decide +kernel
theorem dX11_soonest_74 : decode cX11_soonest 74 = .ok (.getfield 19, 3) := by decide +kernel
theorem dX11_soonest_77 : decode cX11_soonest 77 = .ok (.invokevirtual 230, 3) := by decide +kernel
theorem dX11_soonest_80 : decode cX11_soonest 80 = .ok (.aload_n 0, 1) := by decide +kernel
theorem dX11_soonest_81 : decode cX11_soonest 81 = .ok (.getfield 19, 3) := by decide +kernel
theorem dX11_soonest_84 : decode cX11_soonest 84 = .ok (.iload_n 2, 1) := by decide +kernel
theorem dX11_soonest_85 : decode cX11_soonest 85 = .ok (.i2l, 1) := by decide +kernel
theorem dX11_soonest_86 : decode cX11_soonest 86 = .ok (.invokevirtual 233, 3) := by decide +kernel
theorem dX11_soonest_89 : decode cX11_soonest 89 = .ok (.aload_n 0, 1) := by decide +kernel
theorem dX11_soonest_90 : decode cX11_soonest 90 = .ok (.getfield 19, 3) := by decide +kernel
theorem dX11_soonest_93 : decode cX11_soonest 93 = .ok (.aload_n 0, 1) := by decide +kernel
theorem dX11_soonest_94 : decode cX11_soonest 94 = .ok (.getfield 33, 3) := by decide +kernel
theorem dX11_soonest_97 : decode cX11_soonest 97 = .ok (.getfield 191, 3) := by decide +kernel
theorem dX11_soonest_100 : decode cX11_soonest 100 = .ok (.iload_n 1, 1) := by decide +kernel
theorem dX11_soonest_101 : decode cX11_soonest 101 = .ok (.iaload, 1) := by decide +kernel
theorem dX11_soonest_102 : decode cX11_soonest 102 = .ok (.i2l, 1) := by decide +kernel
theorem dX11_soonest_103 : decode cX11_soonest 103 = .ok (.invokevirtual 233, 3) := by decide +kernel
theorem dX11_soonest_106 : decode cX11_soonest 106 = .ok (.iload_n 1, 1) := by decide +kernel
theorem dX11_soonest_107 : decode cX11_soonest 107 = .ok (.ireturn, 1) := by decide +kernel
def fX11_soonest_L7 (M : zM) : Nat → Int32 → Int32 → Int32 → Option (Int32 × Int32)
  | 0, _, _, _ => none
  | n + 1, x1, x2, x3 => if (M.1 5 3) ≤ x3 then (
    some (x1, x2))
    else (
    (fX10_isIn 60 x3 M).bind fun (r1 : Int32) =>
    (if r1 = 0 then (
    some (x1, x2))
    else (
    (fX10_daysLeft 60 x3 (M.1 0 17) M).bind fun (r3 : Int32) =>
    if x2 ≤ r3 then (
    some (x1, x2))
    else (
    (fX10_daysLeft 60 x3 (M.1 0 17) M).bind fun (r4 : Int32) =>
    some (x3, r4))) : Option (Int32 × Int32)).bind fun (q : Int32 × Int32) => zp q fun x1_60 x2_60 =>
    fX11_soonest_L7 M n x1_60 x2_60 (x3 + 1))
def fX11_soonest  (M : zM) : Option (Int32 × zM) := (fX11_soonest_L7 M 4000 (-1) 100 0).bind fun (q : Int32 × Int32) => zp q fun x1_66 x2_66 =>
  if 0 ≤ x1_66 then (
  zlet (fX3_begin M) fun (M77 : zM) =>
  (fX3_tell x2_66.toInt64 M77).bind fun (M86 : zM) =>
  if zin x1_66 8 then (
  (fX3_tell ((M86.1 64 x1_66.toNatClampNeg).toInt64) M86).bind fun (M103 : zM) =>
  some (x1_66, M103)) else none)
  else (
  some ((-2), M))
set_option maxHeartbeats 4000000 in
theorem lX11_soonest_7 {E : zE} {Γ : zT} {d : Nat} {K1 : (Int32 × Int32) → Prop} (hC : Cx E Γ RX11 cX11_soonest 4 d) (hd : 2 ≤ d) (M : zM) (hx : ∀ (x1_66 : Int32) (x2_66 : Int32), K1 (x1_66, x2_66) → G E Γ 4 66 [(0, .ref 0), (1, .int x1_66), (2, .int x2_66)] [] M) :
    ∀ (n : Nat) (x1 : Int32) (x2 : Int32) (x3 : Int32), wpO (fX11_soonest_L7 M n x1 x2 x3) K1 → G E Γ 4 7 [(0, .ref 0), (1, .int x1), (2, .int x2), (3, .int x3)] [] M := by
  intro n
  induction n with
  | zero =>
    intro x1 x2 x3 h
    exact (wpO_0 h).elim
  | succ n ih =>
    intro x1 x2 x3 h
    rw [fX11_soonest_L7.eq_2] at h
    refine g_iload_n (i := 3) (x := x3) hC (dX11_soonest_7) rfl rfl ?_
    refine g_aload_n (i := 0) (x := 0) hC (dX11_soonest_8) rfl rfl ?_
    refine g_getR (r := 5) hC flX11_26 (dX11_soonest_9) rfl rfl rfl ?_
    refine g_getI hC flX11_135 (dX11_soonest_12) rfl rfl ?_
    refine g_icmp_ge (tgt := 66) hC (dX11_soonest_15) (by decide) (fun c15 => ?_) (fun c15 => ?_)
    · have h := wpO_t c15 h
      refine g_sub (lv' := [(0, .ref 0), (1, .int x1), (2, .int x2)]) [0, 1, 2] rfl ?_
      exact hx _ _ (wpO_s h)
    · have h := wpO_f c15 h
      refine g_aload_n (i := 0) (x := 0) hC (dX11_soonest_18) rfl rfl ?_
      refine g_getR (r := 60) hC flX11_33 (dX11_soonest_19) rfl rfl rfl ?_
      refine g_iload_n (i := 3) (x := x3) hC (dX11_soonest_22) rfl rfl ?_
      have h := wpO_b h
      refine g_callVi ([.int x3]) hC wvX11_316 (dX11_soonest_23) rfl rfl (by omega) (Nat.le_of_ble_eq_true rfl) (cX10_isIn_ok (by omega) 60 x3 M h) (fun r1 N q => ?_)
      obtain ⟨rfl, h⟩ := q
      refine wpO_bJ h (fun KJ2 hKJ2 h => ?_)
      have hJ2 : ∀ (x1_60 : Int32) (x2_60 : Int32), KJ2 (x1_60, x2_60) → G E Γ 4 60 [(0, .ref 0), (1, .int x1_60), (2, .int x2_60), (3, .int x3)] [] M := by
        intro x1_60 x2_60 h
        have h := hKJ2 _ h
        have h := wpO_p h
        refine g_iinc (x := x3) (v := (x3 + 1)) (lv2 := [(3, .int (x3 + 1)), (0, .ref 0), (1, .int x1_60), (2, .int x2_60)]) hC (dX11_soonest_60) rfl rfl (by decide) rfl ?_
        refine g_goto (tgt := 7) hC (dX11_soonest_63) (by decide) ?_
        refine g_sub (lv' := [(0, .ref 0), (1, .int x1_60), (2, .int x2_60), (3, .int (x3 + 1))]) [1, 2, 3, 0] rfl ?_
        exact ih _ _ _ h
      refine g_if_eq (tgt := 60) hC (dX11_soonest_26) (by decide) (fun c26 => ?_) (fun c26 => ?_)
      · have h := wpO_t c26 h
        exact hJ2 _ _ (wpO_s h)
      · have h := wpO_f c26 h
        refine g_aload_n (i := 0) (x := 0) hC (dX11_soonest_29) rfl rfl ?_
        refine g_getR (r := 60) hC flX11_33 (dX11_soonest_30) rfl rfl rfl ?_
        refine g_iload_n (i := 3) (x := x3) hC (dX11_soonest_33) rfl rfl ?_
        refine g_aload_n (i := 0) (x := 0) hC (dX11_soonest_34) rfl rfl ?_
        refine g_getI hC flX11_110 (dX11_soonest_35) rfl rfl ?_
        have h := wpO_b h
        refine g_callVi ([.int x3, .int (M.1 0 17)]) hC wvX11_319 (dX11_soonest_38) rfl rfl (by omega) (Nat.le_of_ble_eq_true rfl) (cX10_daysLeft_ok (by omega) 60 x3 (M.1 0 17) M h) (fun r3 N q => ?_)
        obtain ⟨rfl, h⟩ := q
        refine g_iload_n (i := 2) (x := x2) hC (dX11_soonest_41) rfl rfl ?_
        refine g_icmp_ge (tgt := 60) hC (dX11_soonest_42) (by decide) (fun c42 => ?_) (fun c42 => ?_)
        · have h := wpO_t c42 h
          exact hJ2 _ _ (wpO_s h)
        · have h := wpO_f c42 h
          refine g_aload_n (i := 0) (x := 0) hC (dX11_soonest_45) rfl rfl ?_
          refine g_getR (r := 60) hC flX11_33 (dX11_soonest_46) rfl rfl rfl ?_
          refine g_iload_n (i := 3) (x := x3) hC (dX11_soonest_49) rfl rfl ?_
          refine g_aload_n (i := 0) (x := 0) hC (dX11_soonest_50) rfl rfl ?_
          refine g_getI hC flX11_110 (dX11_soonest_51) rfl rfl ?_
          have h := wpO_b h
          refine g_callVi ([.int x3, .int (M.1 0 17)]) hC wvX11_319 (dX11_soonest_54) rfl rfl (by omega) (Nat.le_of_ble_eq_true rfl) (cX10_daysLeft_ok (by omega) 60 x3 (M.1 0 17) M h) (fun r4 N q => ?_)
          obtain ⟨rfl, h⟩ := q
          refine g_istore_n (i := 2) (lv2 := [(2, .int r4), (0, .ref 0), (1, .int x1), (3, .int x3)]) hC (dX11_soonest_57) rfl (by decide) rfl ?_
          refine g_iload_n (i := 3) (x := x3) hC (dX11_soonest_58) rfl rfl ?_
          refine g_istore_n (i := 1) (lv2 := [(1, .int x3), (2, .int r4), (0, .ref 0), (3, .int x3)]) hC (dX11_soonest_59) rfl (by decide) rfl ?_
          refine g_sub (lv' := [(0, .ref 0), (1, .int x3), (2, .int r4), (3, .int x3)]) [2, 0, 1, 3] rfl ?_
          exact hJ2 _ _ (wpO_s h)
set_option maxHeartbeats 4000000 in
theorem cX11_soonest_ok {E : zE} {d : Nat} (hd : 2 ≤ d)  (M : zM) {K : (Int32 × zM) → Prop} (h : wpO (fX11_soonest  M) K) : CMi E d yX11_soonest cX11_soonest 4 (some .int) [.ref 0] M (fun r N => K (r, N)) := by
  refine CMi.of (by decide) (Nat.le_of_ble_eq_true rfl) (fun Γ hC hr => ?_)
  have hC : Cx E Γ RX11 cX11_soonest 4 d := hC
  show G E Γ 4 0 [(0, .ref 0)] [] M
  unfold fX11_soonest at h
  refine g_iconst (v := (-1)) hC (dX11_soonest_0) kc_m1 ?_
  refine g_istore_n (i := 1) (lv2 := [(1, .int (-1)), (0, .ref 0)]) hC (dX11_soonest_1) rfl (by decide) rfl ?_
  refine g_bipush (v := 100) hC (dX11_soonest_2) kb_100 ?_
  refine g_istore_n (i := 2) (lv2 := [(2, .int 100), (1, .int (-1)), (0, .ref 0)]) hC (dX11_soonest_4) rfl (by decide) rfl ?_
  refine g_iconst (v := 0) hC (dX11_soonest_5) kc_0 ?_
  refine g_istore_n (i := 3) (lv2 := [(3, .int 0), (2, .int 100), (1, .int (-1)), (0, .ref 0)]) hC (dX11_soonest_6) rfl (by decide) rfl ?_
  refine g_sub (lv' := [(0, .ref 0), (1, .int (-1)), (2, .int 100), (3, .int 0)]) [3, 2, 1, 0] rfl ?_
  refine wpO_bJ h (fun KL7 hKL7 h => ?_)
  refine lX11_soonest_7 (K1 := KL7) hC (by omega) M (fun x1_66 x2_66 h => ?_) _ _ _ _ h
  have h := hKL7 _ h
  have h := wpO_p h
  refine g_iload_n (i := 1) (x := x1_66) hC (dX11_soonest_66) rfl rfl ?_
  refine g_if_ge (tgt := 73) hC (dX11_soonest_67) (by decide) (fun c67 => ?_) (fun c67 => ?_)
  · have h := wpO_t c67 h
    refine g_aload_n (i := 0) (x := 0) hC (dX11_soonest_73) rfl rfl ?_
    refine g_getR (r := 3) hC flX11_19 (dX11_soonest_74) rfl rfl rfl ?_
    refine g_callVv ([]) hC wvX11_230 (dX11_soonest_77) rfl rfl (by omega) (Nat.le_of_ble_eq_true rfl) (cX3_begin_ok (by omega) M (K := fun r => r = fX3_begin M) rfl) (fun N q => ?_)
    subst q
    refine g_nmM (fun M77 e_M77 => ?_)
    have h := wpO_n e_M77 h
    refine g_aload_n (i := 0) (x := 0) hC (dX11_soonest_80) rfl rfl ?_
    refine g_getR (r := 3) hC flX11_19 (dX11_soonest_81) rfl rfl rfl ?_
    refine g_iload_n (i := 2) (x := x2_66) hC (dX11_soonest_84) rfl rfl ?_
    refine g_i2l hC (dX11_soonest_85) ?_
    have h := wpO_b h
    refine g_callVv ([.long x2_66.toInt64]) hC wvX11_233 (dX11_soonest_86) rfl rfl (by omega) (Nat.le_of_ble_eq_true rfl) (cX3_tell_ok (by omega) x2_66.toInt64 M77 h) (fun M86 h => ?_)
    refine g_aload_n (i := 0) (x := 0) hC (dX11_soonest_89) rfl rfl ?_
    refine g_getR (r := 3) hC flX11_19 (dX11_soonest_90) rfl rfl rfl ?_
    refine g_aload_n (i := 0) (x := 0) hC (dX11_soonest_93) rfl rfl ?_
    refine g_getR (r := 60) hC flX11_33 (dX11_soonest_94) rfl rfl rfl ?_
    refine g_getR (r := 64) hC flX11_191 (dX11_soonest_97) rfl rfl rfl ?_
    refine g_iload_n (i := 1) (x := x1_66) hC (dX11_soonest_100) rfl rfl ?_
    obtain ⟨q7, h⟩ := wpO_g h
    refine g_iaload (n := 8) hC (dX11_soonest_101) rfl q7 ?_
    refine g_i2l hC (dX11_soonest_102) ?_
    have h := wpO_b h
    refine g_callVv ([.long ((M86.1 64 x1_66.toNatClampNeg).toInt64)]) hC wvX11_233 (dX11_soonest_103) rfl rfl (by omega) (Nat.le_of_ble_eq_true rfl) (cX3_tell_ok (by omega) ((M86.1 64 x1_66.toNatClampNeg).toInt64) M86 h) (fun M103 h => ?_)
    refine g_iload_n (i := 1) (x := x1_66) hC (dX11_soonest_106) rfl rfl ?_
    refine g_ireturn hC hr (dX11_soonest_107) ?_
    exact wpO_s h
  · have h := wpO_f c67 h
    refine g_bipush (v := (-2)) hC (dX11_soonest_70) kb_m2 ?_
    refine g_ireturn hC hr (dX11_soonest_72) ?_
    exact wpO_s h
/-! LostByState.confused(I)I -/
theorem dX11_confused_0 : decode cX11_confused 0 = .ok (.aload_n 0, 1) := by decide +kernel
theorem dX11_confused_1 : decode cX11_confused 1 = .ok (.iload_n 1, 1) := by decide +kernel
theorem dX11_confused_2 : decode cX11_confused 2 = .ok (.invokevirtual 166, 3) := by decide +kernel
theorem dX11_confused_5 : decode cX11_confused 5 = .ok (.ifCond .ne 5, 3) := by decide +kernel
theorem dX11_confused_8 : decode cX11_confused 8 = .ok (.iconst (-1), 1) := by decide +kernel
theorem dX11_confused_9 : decode cX11_confused 9 = .ok (.ireturn, 1) := by decide +kernel
theorem dX11_confused_10 : decode cX11_confused 10 = .ok (.aload_n 0, 1) := by decide +kernel
theorem dX11_confused_11 : decode cX11_confused 11 = .ok (.getfield 26, 3) := by decide +kernel
theorem dX11_confused_14 : decode cX11_confused 14 = .ok (.getfield 176, 3) := by decide +kernel
theorem dX11_confused_17 : decode cX11_confused 17 = .ok (.iload_n 1, 1) := by decide +kernel
theorem dX11_confused_18 : decode cX11_confused 18 = .ok (.iaload, 1) := by decide +kernel
theorem dX11_confused_19 : decode cX11_confused 19 = .ok (.istore_n 2, 1) := by decide +kernel
theorem dX11_confused_20 : decode cX11_confused 20 = .ok (.iconst (-1), 1) := by decide +kernel
theorem dX11_confused_21 : decode cX11_confused 21 = .ok (.istore_n 3, 1) := by decide +kernel
theorem dX11_confused_22 : decode cX11_confused 22 = .ok (.iconst 0, 1) := by decide +kernel
theorem dX11_confused_23 : decode cX11_confused 23 = .ok (.istore 4, 2) := by decide +kernel
theorem dX11_confused_25 : decode cX11_confused 25 = .ok (.iconst 0, 1) := by decide +kernel
theorem dX11_confused_26 : decode cX11_confused 26 = .ok (.istore 5, 2) := by decide +kernel
theorem dX11_confused_28 : decode cX11_confused 28 = .ok (.iload 5, 2) := by decide +kernel
theorem dX11_confused_30 : decode cX11_confused 30 = .ok (.aload_n 0, 1) := by decide +kernel
theorem dX11_confused_31 : decode cX11_confused 31 = .ok (.getfield 26, 3) := by decide +kernel
theorem dX11_confused_34 : decode cX11_confused 34 = .ok (.getfield 135, 3) := by decide +kernel
theorem dX11_confused_37 : decode cX11_confused 37 = .ok (.if_icmp .ge 61, 3) := by decide +kernel
theorem dX11_confused_40 : decode cX11_confused 40 = .ok (.iload 5, 2) := by decide +kernel
theorem dX11_confused_42 : decode cX11_confused 42 = .ok (.iload_n 1, 1) := by decide +kernel
theorem dX11_confused_43 : decode cX11_confused 43 = .ok (.if_icmp .eq 49, 3) := by decide +kernel
theorem dX11_confused_46 : decode cX11_confused 46 = .ok (.aload_n 0, 1) := by decide +kernel
theorem dX11_confused_47 : decode cX11_confused 47 = .ok (.getfield 33, 3) := by decide +kernel
theorem dX11_confused_50 : decode cX11_confused 50 = .ok (.iload 5, 2) := by decide +kernel
theorem dX11_confused_52 : decode cX11_confused 52 = .ok (.invokevirtual 316, 3) := by decide +kernel
theorem dX11_confused_55 : decode cX11_confused 55 = .ok (.ifCond .ne 6, 3) := by decide +kernel
theorem dX11_confused_58 : decode cX11_confused 58 = .ok (.goto 34, 3) := by decide +kernel
theorem dX11_confused_61 : decode cX11_confused 61 = .ok (.aload_n 0, 1) := by decide +kernel
theorem dX11_confused_62 : decode cX11_confused 62 = .ok (.iload_n 2, 1) := by decide +kernel
theorem dX11_confused_63 : decode cX11_confused 63 = .ok (.iload 5, 2) := by decide +kernel
theorem dX11_confused_65 : decode cX11_confused 65 = .ok (.aload_n 0, 1) := by decide +kernel
theorem dX11_confused_66 : decode cX11_confused 66 = .ok (.getfield 33, 3) := by decide +kernel
theorem dX11_confused_69 : decode cX11_confused 69 = .ok (.invokevirtual 272, 3) := by decide +kernel
theorem dX11_confused_72 : decode cX11_confused 72 = .ok (.istore 6, 2) := by decide +kernel
theorem dX11_confused_74 : decode cX11_confused 74 = .ok (.iload_n 3, 1) := by decide +kernel
theorem dX11_confused_75 : decode cX11_confused 75 = .ok (.ifCond .lt 10, 3) := by decide +kernel
theorem dX11_confused_78 : decode cX11_confused 78 = .ok (.iload 6, 2) := by decide +kernel
theorem dX11_confused_80 : decode cX11_confused 80 = .ok (.iload 4, 2) := by decide +kernel
theorem dX11_confused_82 : decode cX11_confused 82 = .ok (.if_icmp .le 10, 3) := by decide +kernel
theorem dX11_confused_85 : decode cX11_confused 85 = .ok (.iload 5, 2) := by decide +kernel
theorem dX11_confused_87 : decode cX11_confused 87 = .ok (.istore_n 3, 1) := by decide +kernel
theorem dX11_confused_88 : decode cX11_confused 88 = .ok (.iload 6, 2) := by decide +kernel
theorem dX11_confused_90 : decode cX11_confused 90 = .ok (.istore 4, 2) := by decide +kernel
theorem dX11_confused_92 : decode cX11_confused 92 = .ok (.iinc 5 1, 3) := by decide +kernel
theorem dX11_confused_95 : decode cX11_confused 95 = .ok (.goto (-67), 3) := by decide +kernel
theorem dX11_confused_98 : decode cX11_confused 98 = .ok (.iload_n 3, 1) := by decide +kernel
theorem dX11_confused_99 : decode cX11_confused 99 = .ok (.ifCond .ge 6, 3) := by decide +kernel
theorem dX11_confused_102 : decode cX11_confused 102 = .ok (.bipush (-2), 2) := by decide +kernel
theorem dX11_confused_104 : decode cX11_confused 104 = .ok (.ireturn, 1) := by decide +kernel
theorem dX11_confused_105 : decode cX11_confused 105 = .ok (.aload_n 0, 1) := by decide +kernel
theorem dX11_confused_106 : decode cX11_confused 106 = .ok (.getfield 19, 3) := by decide +kernel
theorem dX11_confused_109 : decode cX11_confused 109 = .ok (.invokevirtual 230, 3) := by decide +kernel
theorem dX11_confused_112 : decode cX11_confused 112 = .ok (.aload_n 0, 1) := by decide +kernel
theorem dX11_confused_113 : decode cX11_confused 113 = .ok (.getfield 19, 3) := by decide +kernel
theorem dX11_confused_116 : decode cX11_confused 116 = .ok (.iload 4, 2) := by decide +kernel
theorem dX11_confused_118 : decode cX11_confused 118 = .ok (.invokestatic 276, 3) := by decide +kernel
theorem dX11_confused_121 : decode cX11_confused 121 = .ok (.i2l, 1) := by decide +kernel
theorem dX11_confused_122 : decode cX11_confused 122 = .ok (.invokevirtual 233, 3) := by decide +kernel
theorem dX11_confused_125 : decode cX11_confused 125 = .ok (.aload_n 0, 1) := by decide +kernel
theorem dX11_confused_126 : decode cX11_confused 126 = .ok (.getfield 19, 3) := by decide +kernel
theorem dX11_confused_129 : decode cX11_confused 129 = .ok (.aload_n 0, 1) := by decide +kernel
theorem dX11_confused_130 : decode cX11_confused 130 = .ok (.iload_n 2, 1) := by decide +kernel
theorem dX11_confused_131 : decode cX11_confused 131 = .ok (.iload_n 1, 1) := by decide +kernel
theorem dX11_confused_132 : decode cX11_confused 132 = .ok (.aload_n 0, 1) := by decide +kernel
theorem dX11_confused_133 : decode cX11_confused 133 = .ok (.getfield 33, 3) := by decide +kernel
theorem dX11_confused_136 : decode cX11_confused 136 = .ok (.invokevirtual 272, 3) := by decide +kernel
theorem dX11_confused_139 : decode cX11_confused 139 = .ok (.invokestatic 276, 3) := by decide +kernel
theorem dX11_confused_142 : decode cX11_confused 142 = .ok (.i2l, 1) := by decide +kernel
theorem dX11_confused_143 : decode cX11_confused 143 = .ok (.invokevirtual 233, 3) := by decide +kernel
theorem dX11_confused_146 : decode cX11_confused 146 = .ok (.iload_n 3, 1) := by decide +kernel
theorem dX11_confused_147 : decode cX11_confused 147 = .ok (.ireturn, 1) := by decide +kernel
def fX11_confused_L28 (x1 : Int32) (x2 : Int32) : Nat → Int32 → Int32 → Int32 → zM → Option (Int32 × Int32 × zM)
  | 0, _, _, _, _ => none
  | n + 1, x3, x4, x5, M => if (M.1 5 3) ≤ x5 then (
    some (x3, x4, M))
    else (
    (if x5 = x1 then (
    some (x3, x4, M))
    else (
    (fX10_isIn 60 x5 M).bind fun (r4 : Int32) =>
    if r4 = 0 then (
    some (x3, x4, M))
    else (
    (fX11_matchOf x2 x5 60 M).bind fun (q : Int32 × zM) => zp q fun r5 M69 =>
    zj (fun (_ : Unit) =>
    some (x5, r5, M69))
    fun J6 =>
    if x3 < 0 then (
    J6 ())
    else (
    if r5 ≤ x4 then (
    some (x3, x4, M69))
    else (
    J6 ())))) : Option (Int32 × Int32 × zM)).bind fun (q : Int32 × Int32 × zM) => zp q fun x3_92 q => zp q fun x4_92 M_92 =>
    fX11_confused_L28 x1 x2 n x3_92 x4_92 (x5 + 1) M_92)
def fX11_confused (x1 : Int32) (M : zM) : Option (Int32 × zM) := if (fX11_isThing x1 M) = 0 then (
  some ((-1), M))
  else (
  if zin x1 8 then (
  zlet (M.1 6 x1.toNatClampNeg) fun (x2_19 : Int32) =>
  (fX11_confused_L28 x1 x2_19 4000 (-1) 0 0 M).bind fun (q : Int32 × Int32 × zM) => zp q fun x3_98 q => zp q fun x4_98 M_98 =>
  if 0 ≤ x3_98 then (
  zlet (fX3_begin M_98) fun (M109 : zM) =>
  (fX3_tell ((fX11_toldMatch x4_98).toInt64) M109).bind fun (M122 : zM) =>
  (fX11_matchOf x2_19 x1 60 M122).bind fun (q : Int32 × zM) => zp q fun r10 M136 =>
  (fX3_tell ((fX11_toldMatch r10).toInt64) M136).bind fun (M143 : zM) =>
  some (x3_98, M143))
  else (
  some ((-2), M_98))) else none)
set_option maxHeartbeats 4000000 in
theorem lX11_confused_28 {E : zE} {Γ : zT} {d : Nat} {K1 : (Int32 × Int32 × zM) → Prop} (hC : Cx E Γ RX11 cX11_confused 7 d) (hd : 3 ≤ d) (x1 : Int32) (x2 : Int32) (hx : ∀ (x3_98 : Int32) (x4_98 : Int32) (M_98 : zM), K1 (x3_98, x4_98, M_98) → G E Γ 7 98 [(0, .ref 0), (1, .int x1), (2, .int x2), (3, .int x3_98), (4, .int x4_98)] [] M_98) :
    ∀ (n : Nat) (x3 : Int32) (x4 : Int32) (x5 : Int32) (M : zM), wpO (fX11_confused_L28 x1 x2 n x3 x4 x5 M) K1 → G E Γ 7 28 [(0, .ref 0), (1, .int x1), (2, .int x2), (3, .int x3), (4, .int x4), (5, .int x5)] [] M := by
  intro n
  induction n with
  | zero =>
    intro x3 x4 x5 M h
    exact (wpO_0 h).elim
  | succ n ih =>
    intro x3 x4 x5 M h
    rw [fX11_confused_L28.eq_2] at h
    refine g_iload (i := 5) (x := x5) hC (dX11_confused_28) rfl ?_
    refine g_aload_n (i := 0) (x := 0) hC (dX11_confused_30) rfl rfl ?_
    refine g_getR (r := 5) hC flX11_26 (dX11_confused_31) rfl rfl rfl ?_
    refine g_getI hC flX11_135 (dX11_confused_34) rfl rfl ?_
    refine g_icmp_ge (tgt := 98) hC (dX11_confused_37) (by decide) (fun c37 => ?_) (fun c37 => ?_)
    · have h := wpO_t c37 h
      refine g_sub (lv' := [(0, .ref 0), (1, .int x1), (2, .int x2), (3, .int x3), (4, .int x4)]) [0, 1, 2, 3, 4] rfl ?_
      exact hx _ _ _ (wpO_s h)
    · have h := wpO_f c37 h
      refine g_iload (i := 5) (x := x5) hC (dX11_confused_40) rfl ?_
      refine g_iload_n (i := 1) (x := x1) hC (dX11_confused_42) rfl rfl ?_
      refine wpO_bJ h (fun KJ3 hKJ3 h => ?_)
      have hJ3 : ∀ (x3_92 : Int32) (x4_92 : Int32) (M_92 : zM), KJ3 (x3_92, x4_92, M_92) → G E Γ 7 92 [(0, .ref 0), (1, .int x1), (2, .int x2), (3, .int x3_92), (4, .int x4_92), (5, .int x5)] [] M_92 := by
        intro x3_92 x4_92 M_92 h
        have h := hKJ3 _ h
        have h := wpO_p h
        have h := wpO_p h
        refine g_iinc (x := x5) (v := (x5 + 1)) (lv2 := [(5, .int (x5 + 1)), (0, .ref 0), (1, .int x1), (2, .int x2), (3, .int x3_92), (4, .int x4_92)]) hC (dX11_confused_92) rfl rfl (by decide) rfl ?_
        refine g_goto (tgt := 28) hC (dX11_confused_95) (by decide) ?_
        refine g_sub (lv' := [(0, .ref 0), (1, .int x1), (2, .int x2), (3, .int x3_92), (4, .int x4_92), (5, .int (x5 + 1))]) [1, 2, 3, 4, 5, 0] rfl ?_
        exact ih _ _ _ _ h
      refine g_icmp_eq (tgt := 92) hC (dX11_confused_43) (by decide) (fun c43 => ?_) (fun c43 => ?_)
      · have h := wpO_t c43 h
        exact hJ3 _ _ _ (wpO_s h)
      · have h := wpO_f c43 h
        refine g_aload_n (i := 0) (x := 0) hC (dX11_confused_46) rfl rfl ?_
        refine g_getR (r := 60) hC flX11_33 (dX11_confused_47) rfl rfl rfl ?_
        refine g_iload (i := 5) (x := x5) hC (dX11_confused_50) rfl ?_
        have h := wpO_b h
        refine g_callVi ([.int x5]) hC wvX11_316 (dX11_confused_52) rfl rfl (by omega) (Nat.le_of_ble_eq_true rfl) (cX10_isIn_ok (by omega) 60 x5 M h) (fun r4 N q => ?_)
        obtain ⟨rfl, h⟩ := q
        refine g_if_ne (tgt := 61) hC (dX11_confused_55) (by decide) (fun c55 => ?_) (fun c55 => ?_)
        · have h := wpO_f c55 h
          refine g_aload_n (i := 0) (x := 0) hC (dX11_confused_61) rfl rfl ?_
          refine g_iload_n (i := 2) (x := x2) hC (dX11_confused_62) rfl rfl ?_
          refine g_iload (i := 5) (x := x5) hC (dX11_confused_63) rfl ?_
          refine g_aload_n (i := 0) (x := 0) hC (dX11_confused_65) rfl rfl ?_
          refine g_getR (r := 60) hC flX11_33 (dX11_confused_66) rfl rfl rfl ?_
          have h := wpO_b h
          refine g_callVi ([.int x2, .int x5, .ref 60]) hC wvX11_272 (dX11_confused_69) rfl rfl (by omega) (Nat.le_of_ble_eq_true rfl) (cX11_matchOf_ok (by omega) x2 x5 60 M h) (fun r5 M69 h => ?_)
          have h := wpO_p h
          refine g_istore (i := 6) (lv2 := [(6, .int r5), (0, .ref 0), (1, .int x1), (2, .int x2), (3, .int x3), (4, .int x4), (5, .int x5)]) hC (dX11_confused_72) (by decide) rfl ?_
          refine g_iload_n (i := 3) (x := x3) hC (dX11_confused_74) rfl rfl ?_
          refine wpO_j h (fun J6 hkJ6 h => ?_)
          have hJ6 : ∀ (_ : Unit), wpO (J6 ()) KJ3 → G E Γ 7 85 [(0, .ref 0), (1, .int x1), (2, .int x2), (5, .int x5), (6, .int r5)] [] M69 := by
            intro _ h
            have h := hkJ6 _ h
            refine g_iload (i := 5) (x := x5) hC (dX11_confused_85) rfl ?_
            refine g_istore_n (i := 3) (lv2 := [(3, .int x5), (0, .ref 0), (1, .int x1), (2, .int x2), (5, .int x5), (6, .int r5)]) hC (dX11_confused_87) rfl (by decide) rfl ?_
            refine g_iload (i := 6) (x := r5) hC (dX11_confused_88) rfl ?_
            refine g_istore (i := 4) (lv2 := [(4, .int r5), (3, .int x5), (0, .ref 0), (1, .int x1), (2, .int x2), (5, .int x5), (6, .int r5)]) hC (dX11_confused_90) (by decide) rfl ?_
            refine g_sub (lv' := [(0, .ref 0), (1, .int x1), (2, .int x2), (3, .int x5), (4, .int r5), (5, .int x5)]) [2, 3, 4, 1, 0, 5] rfl ?_
            exact hJ3 _ _ _ (wpO_s h)
          refine g_if_lt (tgt := 85) hC (dX11_confused_75) (by decide) (fun c75 => ?_) (fun c75 => ?_)
          · have h := wpO_t c75 h
            refine g_sub (lv' := [(0, .ref 0), (1, .int x1), (2, .int x2), (5, .int x5), (6, .int r5)]) [1, 2, 3, 6, 0] rfl ?_
            exact hJ6 () h
          · have h := wpO_f c75 h
            refine g_iload (i := 6) (x := r5) hC (dX11_confused_78) rfl ?_
            refine g_iload (i := 4) (x := x4) hC (dX11_confused_80) rfl ?_
            refine g_icmp_le (tgt := 92) hC (dX11_confused_82) (by decide) (fun c82 => ?_) (fun c82 => ?_)
            · have h := wpO_t c82 h
              refine g_sub (lv' := [(0, .ref 0), (1, .int x1), (2, .int x2), (3, .int x3), (4, .int x4), (5, .int x5)]) [1, 2, 3, 4, 5, 6] rfl ?_
              exact hJ3 _ _ _ (wpO_s h)
            · have h := wpO_f c82 h
              refine g_sub (lv' := [(0, .ref 0), (1, .int x1), (2, .int x2), (5, .int x5), (6, .int r5)]) [1, 2, 3, 6, 0] rfl ?_
              exact hJ6 () h
        · have h := wpO_t c55 h
          refine g_goto (tgt := 92) hC (dX11_confused_58) (by decide) ?_
          exact hJ3 _ _ _ (wpO_s h)
set_option maxHeartbeats 4000000 in
theorem cX11_confused_ok {E : zE} {d : Nat} (hd : 3 ≤ d) (x1 : Int32) (M : zM) {K : (Int32 × zM) → Prop} (h : wpO (fX11_confused x1 M) K) : CMi E d yX11_confused cX11_confused 7 (some .int) [.ref 0, .int x1] M (fun r N => K (r, N)) := by
  refine CMi.of (by decide) (Nat.le_of_ble_eq_true rfl) (fun Γ hC hr => ?_)
  have hC : Cx E Γ RX11 cX11_confused 7 d := hC
  show G E Γ 7 0 [(0, .ref 0), (1, .int x1)] [] M
  unfold fX11_confused at h
  refine g_aload_n (i := 0) (x := 0) hC (dX11_confused_0) rfl rfl ?_
  refine g_iload_n (i := 1) (x := x1) hC (dX11_confused_1) rfl rfl ?_
  refine g_callVi ([.int x1]) hC wvX11_166 (dX11_confused_2) rfl rfl (by omega) (Nat.le_of_ble_eq_true rfl) (cX11_isThing_ok (by omega) x1 M (K := fun r => r = fX11_isThing x1 M) rfl) (fun r N q => ?_)
  obtain ⟨rfl, rfl⟩ := q
  refine g_if_ne (tgt := 10) hC (dX11_confused_5) (by decide) (fun c5 => ?_) (fun c5 => ?_)
  · have h := wpO_f c5 h
    refine g_aload_n (i := 0) (x := 0) hC (dX11_confused_10) rfl rfl ?_
    refine g_getR (r := 5) hC flX11_26 (dX11_confused_11) rfl rfl rfl ?_
    refine g_getR (r := 6) hC flX11_176 (dX11_confused_14) rfl rfl rfl ?_
    refine g_iload_n (i := 1) (x := x1) hC (dX11_confused_17) rfl rfl ?_
    obtain ⟨q2, h⟩ := wpO_g h
    refine g_iaload (n := 8) hC (dX11_confused_18) rfl q2 ?_
    refine g_nmi (fun x2_19 e_x2_19 => ?_)
    have h := wpO_n e_x2_19 h
    refine g_istore_n (i := 2) (lv2 := [(2, .int x2_19), (0, .ref 0), (1, .int x1)]) hC (dX11_confused_19) rfl (by decide) rfl ?_
    refine g_iconst (v := (-1)) hC (dX11_confused_20) kc_m1 ?_
    refine g_istore_n (i := 3) (lv2 := [(3, .int (-1)), (2, .int x2_19), (0, .ref 0), (1, .int x1)]) hC (dX11_confused_21) rfl (by decide) rfl ?_
    refine g_iconst (v := 0) hC (dX11_confused_22) kc_0 ?_
    refine g_istore (i := 4) (lv2 := [(4, .int 0), (3, .int (-1)), (2, .int x2_19), (0, .ref 0), (1, .int x1)]) hC (dX11_confused_23) (by decide) rfl ?_
    refine g_iconst (v := 0) hC (dX11_confused_25) kc_0 ?_
    refine g_istore (i := 5) (lv2 := [(5, .int 0), (4, .int 0), (3, .int (-1)), (2, .int x2_19), (0, .ref 0), (1, .int x1)]) hC (dX11_confused_26) (by decide) rfl ?_
    refine g_sub (lv' := [(0, .ref 0), (1, .int x1), (2, .int x2_19), (3, .int (-1)), (4, .int 0), (5, .int 0)]) [4, 5, 3, 2, 1, 0] rfl ?_
    refine wpO_bJ h (fun KL28 hKL28 h => ?_)
    refine lX11_confused_28 (K1 := KL28) hC (by omega) x1 x2_19 (fun x3_98 x4_98 M_98 h => ?_) _ _ _ _ _ h
    have h := hKL28 _ h
    have h := wpO_p h
    have h := wpO_p h
    refine g_iload_n (i := 3) (x := x3_98) hC (dX11_confused_98) rfl rfl ?_
    refine g_if_ge (tgt := 105) hC (dX11_confused_99) (by decide) (fun c99 => ?_) (fun c99 => ?_)
    · have h := wpO_t c99 h
      refine g_aload_n (i := 0) (x := 0) hC (dX11_confused_105) rfl rfl ?_
      refine g_getR (r := 3) hC flX11_19 (dX11_confused_106) rfl rfl rfl ?_
      refine g_callVv ([]) hC wvX11_230 (dX11_confused_109) rfl rfl (by omega) (Nat.le_of_ble_eq_true rfl) (cX3_begin_ok (by omega) M_98 (K := fun r => r = fX3_begin M_98) rfl) (fun N q => ?_)
      subst q
      refine g_nmM (fun M109 e_M109 => ?_)
      have h := wpO_n e_M109 h
      refine g_aload_n (i := 0) (x := 0) hC (dX11_confused_112) rfl rfl ?_
      refine g_getR (r := 3) hC flX11_19 (dX11_confused_113) rfl rfl rfl ?_
      refine g_iload (i := 4) (x := x4_98) hC (dX11_confused_116) rfl ?_
      refine g_callSi ([.int x4_98]) hC wsX11_276 (dX11_confused_118) rfl (by omega) (Nat.le_of_ble_eq_true rfl) (cX11_toldMatch_ok (by omega) x4_98 M109 (K := fun r => r = fX11_toldMatch x4_98) rfl) (fun r N q => ?_)
      obtain ⟨rfl, rfl⟩ := q
      refine g_i2l hC (dX11_confused_121) ?_
      have h := wpO_b h
      refine g_callVv ([.long ((fX11_toldMatch x4_98).toInt64)]) hC wvX11_233 (dX11_confused_122) rfl rfl (by omega) (Nat.le_of_ble_eq_true rfl) (cX3_tell_ok (by omega) ((fX11_toldMatch x4_98).toInt64) M109 h) (fun M122 h => ?_)
      refine g_aload_n (i := 0) (x := 0) hC (dX11_confused_125) rfl rfl ?_
      refine g_getR (r := 3) hC flX11_19 (dX11_confused_126) rfl rfl rfl ?_
      refine g_aload_n (i := 0) (x := 0) hC (dX11_confused_129) rfl rfl ?_
      refine g_iload_n (i := 2) (x := x2_19) hC (dX11_confused_130) rfl rfl ?_
      refine g_iload_n (i := 1) (x := x1) hC (dX11_confused_131) rfl rfl ?_
      refine g_aload_n (i := 0) (x := 0) hC (dX11_confused_132) rfl rfl ?_
      refine g_getR (r := 60) hC flX11_33 (dX11_confused_133) rfl rfl rfl ?_
      have h := wpO_b h
      refine g_callVi ([.int x2_19, .int x1, .ref 60]) hC wvX11_272 (dX11_confused_136) rfl rfl (by omega) (Nat.le_of_ble_eq_true rfl) (cX11_matchOf_ok (by omega) x2_19 x1 60 M122 h) (fun r10 M136 h => ?_)
      have h := wpO_p h
      refine g_callSi ([.int r10]) hC wsX11_276 (dX11_confused_139) rfl (by omega) (Nat.le_of_ble_eq_true rfl) (cX11_toldMatch_ok (by omega) r10 M136 (K := fun r => r = fX11_toldMatch r10) rfl) (fun r N q => ?_)
      obtain ⟨rfl, rfl⟩ := q
      refine g_i2l hC (dX11_confused_142) ?_
      have h := wpO_b h
      refine g_callVv ([.long ((fX11_toldMatch r10).toInt64)]) hC wvX11_233 (dX11_confused_143) rfl rfl (by omega) (Nat.le_of_ble_eq_true rfl) (cX3_tell_ok (by omega) ((fX11_toldMatch r10).toInt64) M136 h) (fun M143 h => ?_)
      refine g_iload_n (i := 3) (x := x3_98) hC (dX11_confused_146) rfl rfl ?_
      refine g_ireturn hC hr (dX11_confused_147) ?_
      exact wpO_s h
    · have h := wpO_f c99 h
      refine g_bipush (v := (-2)) hC (dX11_confused_102) kb_m2 ?_
      refine g_ireturn hC hr (dX11_confused_104) ?_
      exact wpO_s h
  · have h := wpO_t c5 h
    refine g_iconst (v := (-1)) hC (dX11_confused_8) kc_m1 ?_
    refine g_ireturn hC hr (dX11_confused_9) ?_
    exact wpO_s h
/-! LostByState.isDeed(I)Z -/
theorem dX11_isDeed_0 : decode cX11_isDeed 0 = .ok (.iload_n 1, 1) := by decide +kernel
theorem dX11_isDeed_1 : decode cX11_isDeed 1 = .ok (.ifCond .lt 18, 3) := by decide +kernel
theorem dX11_isDeed_4 : decode cX11_isDeed 4 = .ok (.iload_n 1, 1) := by decide +kernel
theorem dX11_isDeed_5 : decode cX11_isDeed 5 = .ok (.aload_n 0, 1) := by decide +kernel
theorem dX11_isDeed_6 : decode cX11_isDeed 6 = .ok (.getfield 26, 3) := by decide +kernel
theorem dX11_isDeed_9 : decode cX11_isDeed 9 = .ok (.getfield 151, 3) := by decide +kernel
theorem dX11_isDeed_12 : decode cX11_isDeed 12 = .ok (.if_icmp .ge 7, 3) := by decide +kernel
theorem dX11_isDeed_15 : decode cX11_isDeed 15 = .ok (.iconst 1, 1) := by decide +kernel
theorem dX11_isDeed_16 : decode cX11_isDeed 16 = .ok (.goto 4, 3) := by decide +kernel
theorem dX11_isDeed_19 : decode cX11_isDeed 19 = .ok (.iconst 0, 1) := by decide +kernel
theorem dX11_isDeed_20 : decode cX11_isDeed 20 = .ok (.ireturn, 1) := by decide +kernel
def fX11_isDeed (x1 : Int32) (M : zM) : Int32 := if x1 < 0 then (
  0)
  else (
  if (M.1 5 4) ≤ x1 then (
  0)
  else (
  1))
theorem bX11_isDeed (x1 : Int32) (M : zM) : fX11_isDeed x1 M = 0 ∨ fX11_isDeed x1 M = 1 := by
  unfold fX11_isDeed
  try simp only [zlet, zp, zj]
  repeat' split
  all_goals first | exact Or.inl rfl | exact Or.inr rfl | (simp; done)
set_option maxHeartbeats 4000000 in
theorem cX11_isDeed_ok {E : zE} {d : Nat} (hd : 0 ≤ d) (x1 : Int32) (M : zM) {K : Int32 → Prop} (h : wpI (fX11_isDeed x1 M) K) : CMi E d yX11_isDeed cX11_isDeed 2 (some .boolean) [.ref 0, .int x1] M (fun r N => M = N ∧ K r) := by
  refine CMi.of (by decide) (Nat.le_of_ble_eq_true rfl) (fun Γ hC hr => ?_)
  have hC : Cx E Γ RX11 cX11_isDeed 2 d := hC
  show G E Γ 2 0 [(0, .ref 0), (1, .int x1)] [] M
  unfold fX11_isDeed at h
  refine g_iload_n (i := 1) (x := x1) hC (dX11_isDeed_0) rfl rfl ?_
  refine g_if_lt (tgt := 19) hC (dX11_isDeed_1) (by decide) (fun c1 => ?_) (fun c1 => ?_)
  · have h := wpI_t c1 h
    refine g_iconst (v := 0) hC (dX11_isDeed_19) kc_0 ?_
    refine g_zreturn hC hr (dX11_isDeed_20) (Or.inl rfl) ?_
    exact ⟨rfl, wpI_s h⟩
  · have h := wpI_f c1 h
    refine g_iload_n (i := 1) (x := x1) hC (dX11_isDeed_4) rfl rfl ?_
    refine g_aload_n (i := 0) (x := 0) hC (dX11_isDeed_5) rfl rfl ?_
    refine g_getR (r := 5) hC flX11_26 (dX11_isDeed_6) rfl rfl rfl ?_
    refine g_getI hC flX11_151 (dX11_isDeed_9) rfl rfl ?_
    refine g_icmp_ge (tgt := 19) hC (dX11_isDeed_12) (by decide) (fun c12 => ?_) (fun c12 => ?_)
    · have h := wpI_t c12 h
      refine g_iconst (v := 0) hC (dX11_isDeed_19) kc_0 ?_
      refine g_zreturn hC hr (dX11_isDeed_20) (Or.inl rfl) ?_
      exact ⟨rfl, wpI_s h⟩
    · have h := wpI_f c12 h
      refine g_iconst (v := 1) hC (dX11_isDeed_15) kc_1 ?_
      refine g_goto (tgt := 20) hC (dX11_isDeed_16) (by decide) ?_
      refine g_zreturn hC hr (dX11_isDeed_20) (Or.inr rfl) ?_
      exact ⟨rfl, wpI_s h⟩
/-! LostByState.regains(I)I -/
theorem dX11_regains_0 : decode cX11_regains 0 = .ok (.aload_n 0, 1) := by decide +kernel
theorem dX11_regains_1 : decode cX11_regains 1 = .ok (.iload_n 1, 1) := by decide +kernel
theorem dX11_regains_2 : decode cX11_regains 2 = .ok (.invokevirtual 199, 3) := by decide +kernel
theorem dX11_regains_5 : decode cX11_regains 5 = .ok (.ifCond .ne 5, 3) := by decide +kernel
theorem dX11_regains_8 : decode cX11_regains 8 = .ok (.iconst (-1), 1) := by decide +kernel
theorem dX11_regains_9 : decode cX11_regains 9 = .ok (.ireturn, 1) := by decide +kernel
theorem dX11_regains_10 : decode cX11_regains 10 = .ok (.aload_n 0, 1) := by decide +kernel
theorem dX11_regains_11 : decode cX11_regains 11 = .ok (.getfield 26, 3) := by decide +kernel
theorem dX11_regains_14 : decode cX11_regains 14 = .ok (.getfield 148, 3) := by decide +kernel
theorem dX11_regains_17 : decode cX11_regains 17 = .ok (.iload_n 1, 1) := by decide +kernel
theorem dX11_regains_18 : decode cX11_regains 18 = .ok (.iaload, 1) := by decide +kernel
theorem dX11_regains_19 : decode cX11_regains 19 = .ok (.istore_n 2, 1) := by decide +kernel
theorem dX11_regains_20 : decode cX11_regains 20 = .ok (.iload_n 2, 1) := by decide +kernel
theorem dX11_regains_21 : decode cX11_regains 21 = .ok (.aload_n 0, 1) := by decide +kernel
theorem dX11_regains_22 : decode cX11_regains 22 = .ok (.getfield 33, 3) := by decide +kernel
theorem dX11_regains_25 : decode cX11_regains 25 = .ok (.bipush 6, 2) := by decide +kernel
theorem dX11_regains_27 : decode cX11_regains 27 = .ok (.invokevirtual 204, 3) := by decide +kernel
theorem dX11_regains_30 : decode cX11_regains 30 = .ok (.iconst (-1), 1) := by decide +kernel
theorem dX11_regains_31 : decode cX11_regains 31 = .ok (.ixor, 1) := by decide +kernel
theorem dX11_regains_32 : decode cX11_regains 32 = .ok (.iand, 1) := by decide +kernel
theorem dX11_regains_33 : decode cX11_regains 33 = .ok (.istore_n 3, 1) := by decide +kernel
theorem dX11_regains_34 : decode cX11_regains 34 = .ok (.iload_n 2, 1) := by decide +kernel
theorem dX11_regains_35 : decode cX11_regains 35 = .ok (.aload_n 0, 1) := by decide +kernel
theorem dX11_regains_36 : decode cX11_regains 36 = .ok (.getfield 33, 3) := by decide +kernel
theorem dX11_regains_39 : decode cX11_regains 39 = .ok (.invokevirtual 304, 3) := by decide +kernel
theorem dX11_regains_42 : decode cX11_regains 42 = .ok (.iand, 1) := by decide +kernel
theorem dX11_regains_43 : decode cX11_regains 43 = .ok (.istore 4, 2) := by decide +kernel
theorem dX11_regains_45 : decode cX11_regains 45 = .ok (.iload_n 2, 1) := by decide +kernel
theorem dX11_regains_46 : decode cX11_regains 46 = .ok (.aload_n 0, 1) := by decide +kernel
theorem dX11_regains_47 : decode cX11_regains 47 = .ok (.getfield 33, 3) := by decide +kernel
theorem dX11_regains_50 : decode cX11_regains 50 = .ok (.invokevirtual 327, 3) := by decide +kernel
theorem dX11_regains_53 : decode cX11_regains 53 = .ok (.iand, 1) := by decide +kernel
theorem dX11_regains_54 : decode cX11_regains 54 = .ok (.istore 5, 2) := by decide +kernel
theorem dX11_regains_56 : decode cX11_regains 56 = .ok (.aload_n 0, 1) := by decide +kernel
theorem dX11_regains_57 : decode cX11_regains 57 = .ok (.getfield 19, 3) := by decide +kernel
theorem dX11_regains_60 : decode cX11_regains 60 = .ok (.invokevirtual 230, 3) := by decide +kernel
theorem dX11_regains_63 : decode cX11_regains 63 = .ok (.aload_n 0, 1) := by decide +kernel
theorem dX11_regains_64 : decode cX11_regains 64 = .ok (.getfield 19, 3) := by decide +kernel
theorem dX11_regains_67 : decode cX11_regains 67 = .ok (.iload 5, 2) := by decide +kernel
theorem dX11_regains_69 : decode cX11_regains 69 = .ok (.i2l, 1) := by decide +kernel
theorem dX11_regains_70 : decode cX11_regains 70 = .ok (.invokevirtual 233, 3) := by decide +kernel
theorem dX11_regains_73 : decode cX11_regains 73 = .ok (.aload_n 0, 1) := by decide +kernel
theorem dX11_regains_74 : decode cX11_regains 74 = .ok (.getfield 19, 3) := by decide +kernel
theorem dX11_regains_77 : decode cX11_regains 77 = .ok (.iload_n 3, 1) := by decide +kernel
theorem dX11_regains_78 : decode cX11_regains 78 = .ok (.iload 4, 2) := by decide +kernel
theorem dX11_regains_80 : decode cX11_regains 80 = .ok (.iconst (-1), 1) := by decide +kernel
theorem dX11_regains_81 : decode cX11_regains 81 = .ok (.ixor, 1) := by decide +kernel
theorem dX11_regains_82 : decode cX11_regains 82 = .ok (.iand, 1) := by decide +kernel
theorem dX11_regains_83 : decode cX11_regains 83 = .ok (.iload 5, 2) := by decide +kernel
theorem dX11_regains_85 : decode cX11_regains 85 = .ok (.iconst (-1), 1) := by decide +kernel
theorem dX11_regains_86 : decode cX11_regains 86 = .ok (.ixor, 1) := by decide +kernel
theorem dX11_regains_87 : decode cX11_regains 87 = .ok (.iand, 1) := by decide +kernel
theorem dX11_regains_88 : decode cX11_regains 88 = .ok (.i2l, 1) := by decide +kernel
theorem dX11_regains_89 : decode cX11_regains 89 = .ok (.invokevirtual 233, 3) := by decide +kernel
theorem dX11_regains_92 : decode cX11_regains 92 = .ok (.aload_n 0, 1) := by decide +kernel
theorem dX11_regains_93 : decode cX11_regains 93 = .ok (.getfield 19, 3) := by decide +kernel
theorem dX11_regains_96 : decode cX11_regains 96 = .ok (.aload_n 0, 1) := by decide +kernel
theorem dX11_regains_97 : decode cX11_regains 97 = .ok (.getfield 26, 3) := by decide +kernel
theorem dX11_regains_100 : decode cX11_regains 100 = .ok (.iload_n 3, 1) := by decide +kernel
theorem dX11_regains_101 : decode cX11_regains 101 = .ok (.invokevirtual 324, 3) := by decide +kernel
theorem dX11_regains_104 : decode cX11_regains 104 = .ok (.i2l, 1) := by decide +kernel
theorem dX11_regains_105 : decode cX11_regains 105 = .ok (.invokevirtual 233, 3) := by decide +kernel
theorem dX11_regains_108 : decode cX11_regains 108 = .ok (.iload 4, 2) := by decide +kernel
theorem dX11_regains_110 : decode cX11_regains 110 = .ok (.ireturn, 1) := by decide +kernel
def fX11_regains (x1 : Int32) (M : zM) : Option (Int32 × zM) := if (fX11_isDeed x1 M) = 0 then (
  some ((-1), M))
  else (
  if zin x1 6 then (
  zlet (M.1 8 x1.toNatClampNeg) fun (x2_19 : Int32) =>
  (fX10_heldBy 60 6 M).bind fun (r3 : Int32) =>
  zlet (x2_19 &&& (r3 ^^^ (-1))) fun (x3_33 : Int32) =>
  (fX10_inside 60 M).bind fun (r4 : Int32) =>
  zlet (x2_19 &&& r4) fun (x4_43 : Int32) =>
  (fX10_lost 60 M).bind fun (r5 : Int32) =>
  zlet (x2_19 &&& r5) fun (x5_54 : Int32) =>
  zlet (fX3_begin M) fun (M60 : zM) =>
  (fX3_tell x5_54.toInt64 M60).bind fun (M70 : zM) =>
  (fX3_tell (((x3_33 &&& (x4_43 ^^^ (-1))) &&& (x5_54 ^^^ (-1))).toInt64) M70).bind fun (M89 : zM) =>
  (fX7_worthOf x3_33 M89).bind fun (r9 : Int32) =>
  (fX3_tell r9.toInt64 M89).bind fun (M105 : zM) =>
  some (x4_43, M105)) else none)
set_option maxHeartbeats 4000000 in
theorem cX11_regains_ok {E : zE} {d : Nat} (hd : 2 ≤ d) (x1 : Int32) (M : zM) {K : (Int32 × zM) → Prop} (h : wpO (fX11_regains x1 M) K) : CMi E d yX11_regains cX11_regains 6 (some .int) [.ref 0, .int x1] M (fun r N => K (r, N)) := by
  refine CMi.of (by decide) (Nat.le_of_ble_eq_true rfl) (fun Γ hC hr => ?_)
  have hC : Cx E Γ RX11 cX11_regains 6 d := hC
  show G E Γ 6 0 [(0, .ref 0), (1, .int x1)] [] M
  unfold fX11_regains at h
  refine g_aload_n (i := 0) (x := 0) hC (dX11_regains_0) rfl rfl ?_
  refine g_iload_n (i := 1) (x := x1) hC (dX11_regains_1) rfl rfl ?_
  refine g_callVi ([.int x1]) hC wvX11_199 (dX11_regains_2) rfl rfl (by omega) (Nat.le_of_ble_eq_true rfl) (cX11_isDeed_ok (by omega) x1 M (K := fun r => r = fX11_isDeed x1 M) rfl) (fun r N q => ?_)
  obtain ⟨rfl, rfl⟩ := q
  refine g_if_ne (tgt := 10) hC (dX11_regains_5) (by decide) (fun c5 => ?_) (fun c5 => ?_)
  · have h := wpO_f c5 h
    refine g_aload_n (i := 0) (x := 0) hC (dX11_regains_10) rfl rfl ?_
    refine g_getR (r := 5) hC flX11_26 (dX11_regains_11) rfl rfl rfl ?_
    refine g_getR (r := 8) hC flX11_148 (dX11_regains_14) rfl rfl rfl ?_
    refine g_iload_n (i := 1) (x := x1) hC (dX11_regains_17) rfl rfl ?_
    obtain ⟨q2, h⟩ := wpO_g h
    refine g_iaload (n := 6) hC (dX11_regains_18) rfl q2 ?_
    refine g_nmi (fun x2_19 e_x2_19 => ?_)
    have h := wpO_n e_x2_19 h
    refine g_istore_n (i := 2) (lv2 := [(2, .int x2_19), (0, .ref 0), (1, .int x1)]) hC (dX11_regains_19) rfl (by decide) rfl ?_
    refine g_iload_n (i := 2) (x := x2_19) hC (dX11_regains_20) rfl rfl ?_
    refine g_aload_n (i := 0) (x := 0) hC (dX11_regains_21) rfl rfl ?_
    refine g_getR (r := 60) hC flX11_33 (dX11_regains_22) rfl rfl rfl ?_
    refine g_bipush (v := 6) hC (dX11_regains_25) kb_6 ?_
    have h := wpO_b h
    refine g_callVi ([.int 6]) hC wvX11_204 (dX11_regains_27) rfl rfl (by omega) (Nat.le_of_ble_eq_true rfl) (cX10_heldBy_ok (by omega) 60 6 M h) (fun r3 N q => ?_)
    obtain ⟨rfl, h⟩ := q
    refine g_iconst (v := (-1)) hC (dX11_regains_30) kc_m1 ?_
    refine g_ixor hC (dX11_regains_31) ?_
    refine g_iand hC (dX11_regains_32) ?_
    refine g_nmi (fun x3_33 e_x3_33 => ?_)
    have h := wpO_n e_x3_33 h
    refine g_istore_n (i := 3) (lv2 := [(3, .int x3_33), (2, .int x2_19), (0, .ref 0), (1, .int x1)]) hC (dX11_regains_33) rfl (by decide) rfl ?_
    refine g_iload_n (i := 2) (x := x2_19) hC (dX11_regains_34) rfl rfl ?_
    refine g_aload_n (i := 0) (x := 0) hC (dX11_regains_35) rfl rfl ?_
    refine g_getR (r := 60) hC flX11_33 (dX11_regains_36) rfl rfl rfl ?_
    have h := wpO_b h
    refine g_callVi ([]) hC wvX11_304 (dX11_regains_39) rfl rfl (by omega) (Nat.le_of_ble_eq_true rfl) (cX10_inside_ok (by omega) 60 M h) (fun r4 N q => ?_)
    obtain ⟨rfl, h⟩ := q
    refine g_iand hC (dX11_regains_42) ?_
    refine g_nmi (fun x4_43 e_x4_43 => ?_)
    have h := wpO_n e_x4_43 h
    refine g_istore (i := 4) (lv2 := [(4, .int x4_43), (3, .int x3_33), (2, .int x2_19), (0, .ref 0), (1, .int x1)]) hC (dX11_regains_43) (by decide) rfl ?_
    refine g_iload_n (i := 2) (x := x2_19) hC (dX11_regains_45) rfl rfl ?_
    refine g_aload_n (i := 0) (x := 0) hC (dX11_regains_46) rfl rfl ?_
    refine g_getR (r := 60) hC flX11_33 (dX11_regains_47) rfl rfl rfl ?_
    have h := wpO_b h
    refine g_callVi ([]) hC wvX11_327 (dX11_regains_50) rfl rfl (by omega) (Nat.le_of_ble_eq_true rfl) (cX10_lost_ok (by omega) 60 M h) (fun r5 N q => ?_)
    obtain ⟨rfl, h⟩ := q
    refine g_iand hC (dX11_regains_53) ?_
    refine g_nmi (fun x5_54 e_x5_54 => ?_)
    have h := wpO_n e_x5_54 h
    refine g_istore (i := 5) (lv2 := [(5, .int x5_54), (4, .int x4_43), (3, .int x3_33), (2, .int x2_19), (0, .ref 0), (1, .int x1)]) hC (dX11_regains_54) (by decide) rfl ?_
    refine g_aload_n (i := 0) (x := 0) hC (dX11_regains_56) rfl rfl ?_
    refine g_getR (r := 3) hC flX11_19 (dX11_regains_57) rfl rfl rfl ?_
    refine g_callVv ([]) hC wvX11_230 (dX11_regains_60) rfl rfl (by omega) (Nat.le_of_ble_eq_true rfl) (cX3_begin_ok (by omega) M (K := fun r => r = fX3_begin M) rfl) (fun N q => ?_)
    subst q
    refine g_nmM (fun M60 e_M60 => ?_)
    have h := wpO_n e_M60 h
    refine g_aload_n (i := 0) (x := 0) hC (dX11_regains_63) rfl rfl ?_
    refine g_getR (r := 3) hC flX11_19 (dX11_regains_64) rfl rfl rfl ?_
    refine g_iload (i := 5) (x := x5_54) hC (dX11_regains_67) rfl ?_
    refine g_i2l hC (dX11_regains_69) ?_
    have h := wpO_b h
    refine g_callVv ([.long x5_54.toInt64]) hC wvX11_233 (dX11_regains_70) rfl rfl (by omega) (Nat.le_of_ble_eq_true rfl) (cX3_tell_ok (by omega) x5_54.toInt64 M60 h) (fun M70 h => ?_)
    refine g_aload_n (i := 0) (x := 0) hC (dX11_regains_73) rfl rfl ?_
    refine g_getR (r := 3) hC flX11_19 (dX11_regains_74) rfl rfl rfl ?_
    refine g_iload_n (i := 3) (x := x3_33) hC (dX11_regains_77) rfl rfl ?_
    refine g_iload (i := 4) (x := x4_43) hC (dX11_regains_78) rfl ?_
    refine g_iconst (v := (-1)) hC (dX11_regains_80) kc_m1 ?_
    refine g_ixor hC (dX11_regains_81) ?_
    refine g_iand hC (dX11_regains_82) ?_
    refine g_iload (i := 5) (x := x5_54) hC (dX11_regains_83) rfl ?_
    refine g_iconst (v := (-1)) hC (dX11_regains_85) kc_m1 ?_
    refine g_ixor hC (dX11_regains_86) ?_
    refine g_iand hC (dX11_regains_87) ?_
    refine g_i2l hC (dX11_regains_88) ?_
    have h := wpO_b h
    refine g_callVv ([.long (((x3_33 &&& (x4_43 ^^^ (-1))) &&& (x5_54 ^^^ (-1))).toInt64)]) hC wvX11_233 (dX11_regains_89) rfl rfl (by omega) (Nat.le_of_ble_eq_true rfl) (cX3_tell_ok (by omega) (((x3_33 &&& (x4_43 ^^^ (-1))) &&& (x5_54 ^^^ (-1))).toInt64) M70 h) (fun M89 h => ?_)
    refine g_aload_n (i := 0) (x := 0) hC (dX11_regains_92) rfl rfl ?_
    refine g_getR (r := 3) hC flX11_19 (dX11_regains_93) rfl rfl rfl ?_
    refine g_aload_n (i := 0) (x := 0) hC (dX11_regains_96) rfl rfl ?_
    refine g_getR (r := 5) hC flX11_26 (dX11_regains_97) rfl rfl rfl ?_
    refine g_iload_n (i := 3) (x := x3_33) hC (dX11_regains_100) rfl rfl ?_
    have h := wpO_b h
    refine g_callVi ([.int x3_33]) hC wvX11_324 (dX11_regains_101) rfl rfl (by omega) (Nat.le_of_ble_eq_true rfl) (cX7_worthOf_ok (by omega) x3_33 M89 h) (fun r9 N q => ?_)
    obtain ⟨rfl, h⟩ := q
    refine g_i2l hC (dX11_regains_104) ?_
    have h := wpO_b h
    refine g_callVv ([.long r9.toInt64]) hC wvX11_233 (dX11_regains_105) rfl rfl (by omega) (Nat.le_of_ble_eq_true rfl) (cX3_tell_ok (by omega) r9.toInt64 M89 h) (fun M105 h => ?_)
    refine g_iload (i := 4) (x := x4_43) hC (dX11_regains_108) rfl ?_
    refine g_ireturn hC hr (dX11_regains_110) ?_
    exact wpO_s h
  · have h := wpO_t c5 h
    refine g_iconst (v := (-1)) hC (dX11_regains_8) kc_m1 ?_
    refine g_ireturn hC hr (dX11_regains_9) ?_
    exact wpO_s h
/-! LostByState.said(II)I -/
theorem dX11_said_0 : decode cX11_said 0 = .ok (.iload_n 1, 1) := by decide +kernel
theorem dX11_said_1 : decode cX11_said 1 = .ok (.ifCond .lt 30, 3) := by decide +kernel
theorem dX11_said_4 : decode cX11_said 4 = .ok (.iload_n 1, 1) := by decide +kernel
theorem dX11_said_5 : decode cX11_said 5 = .ok (.bipush 8, 2) := by decide +kernel
theorem dX11_said_7 : decode cX11_said 7 = .ok (.if_icmp .ge 24, 3) := by decide +kernel
theorem dX11_said_10 : decode cX11_said 10 = .ok (.iload_n 2, 1) := by decide +kernel
theorem dX11_said_11 : decode cX11_said 11 = .ok (.ifCond .lt 20, 3) := by decide +kernel
theorem dX11_said_14 : decode cX11_said 14 = .ok (.iload_n 2, 1) := by decide +kernel
theorem dX11_said_15 : decode cX11_said 15 = .ok (.iconst 1, 1) := by decide +kernel
theorem dX11_said_16 : decode cX11_said 16 = .ok (.if_icmp .gt 15, 3) := by decide +kernel
theorem dX11_said_19 : decode cX11_said 19 = .ok (.aload_n 0, 1) := by decide +kernel
theorem dX11_said_20 : decode cX11_said 20 = .ok (.getfield 98, 3) := by decide +kernel
theorem dX11_said_23 : decode cX11_said 23 = .ok (.getfield 330, 3) := by decide +kernel
theorem dX11_said_26 : decode cX11_said 26 = .ok (.bipush 12, 2) := by decide +kernel
theorem dX11_said_28 : decode cX11_said 28 = .ok (.if_icmp .lt 5, 3) := by decide +kernel
theorem dX11_said_31 : decode cX11_said 31 = .ok (.iconst (-1), 1) := by decide +kernel
theorem dX11_said_32 : decode cX11_said 32 = .ok (.ireturn, 1) := by decide +kernel
theorem dX11_said_33 : decode cX11_said 33 = .ok (.aload_n 0, 1) := by decide +kernel
theorem dX11_said_34 : decode cX11_said 34 = .ok (.getfield 98, 3) := by decide +kernel
theorem dX11_said_37 : decode cX11_said 37 = .ok (.iload_n 1, 1) := by decide +kernel
theorem dX11_said_38 : decode cX11_said 38 = .ok (.iload_n 2, 1) := by decide +kernel
theorem dX11_said_39 : decode cX11_said 39 = .ok (.iconst 1, 1) := by decide +kernel
theorem dX11_said_40 : decode cX11_said 40 = .ok (.if_icmp .ne 7, 3) := by decide +kernel
theorem dX11_said_43 : decode cX11_said 43 = .ok (.iconst 1, 1) := by decide +kernel
theorem dX11_said_44 : decode cX11_said 44 = .ok (.goto 4, 3) := by decide +kernel
theorem dX11_said_47 : decode cX11_said 47 = .ok (.iconst 0, 1) := by decide +kernel
theorem dX11_said_48 : decode cX11_said 48 = .ok (.invokevirtual 331, 3) := by decide +kernel
theorem dX11_said_51 : decode cX11_said 51 = .ok (.aload_n 0, 1) := by decide +kernel
theorem dX11_said_52 : decode cX11_said 52 = .ok (.getfield 98, 3) := by decide +kernel
theorem dX11_said_55 : decode cX11_said 55 = .ok (.getfield 330, 3) := by decide +kernel
theorem dX11_said_58 : decode cX11_said 58 = .ok (.ireturn, 1) := by decide +kernel
def fX11_said (x1 : Int32) (x2 : Int32) (M : zM) : Int32 × zM := if x1 < 0 then (
  ((-1), M))
  else (
  if 8 ≤ x1 then (
  ((-1), M))
  else (
  if x2 < 0 then (
  ((-1), M))
  else (
  if 1 < x2 then (
  ((-1), M))
  else (
  if (M.1 34 2) < 12 then (
  zlet (if x2 = 1 then (
  1)
  else (
  0)) fun (s0_48 : Int32) =>
  zlet (fX1_hear x1 s0_48 M) fun (M48 : zM) =>
  (M48.1 34 2, M48))
  else (
  ((-1), M))))))
set_option maxHeartbeats 4000000 in
theorem cX11_said_ok {E : zE} {d : Nat} (hd : 1 ≤ d) (x1 : Int32) (x2 : Int32) (M : zM) {K : (Int32 × zM) → Prop} (h : wpI (fX11_said x1 x2 M) K) : CMi E d yX11_said cX11_said 3 (some .int) [.ref 0, .int x1, .int x2] M (fun r N => K (r, N)) := by
  refine CMi.of (by decide) (Nat.le_of_ble_eq_true rfl) (fun Γ hC hr => ?_)
  have hC : Cx E Γ RX11 cX11_said 3 d := hC
  show G E Γ 3 0 [(0, .ref 0), (1, .int x1), (2, .int x2)] [] M
  unfold fX11_said at h
  refine g_iload_n (i := 1) (x := x1) hC (dX11_said_0) rfl rfl ?_
  refine g_if_lt (tgt := 31) hC (dX11_said_1) (by decide) (fun c1 => ?_) (fun c1 => ?_)
  · have h := wpI_t c1 h
    refine g_iconst (v := (-1)) hC (dX11_said_31) kc_m1 ?_
    refine g_ireturn hC hr (dX11_said_32) ?_
    exact wpI_s h
  · have h := wpI_f c1 h
    refine g_iload_n (i := 1) (x := x1) hC (dX11_said_4) rfl rfl ?_
    refine g_bipush (v := 8) hC (dX11_said_5) kb_8 ?_
    refine g_icmp_ge (tgt := 31) hC (dX11_said_7) (by decide) (fun c7 => ?_) (fun c7 => ?_)
    · have h := wpI_t c7 h
      refine g_iconst (v := (-1)) hC (dX11_said_31) kc_m1 ?_
      refine g_ireturn hC hr (dX11_said_32) ?_
      exact wpI_s h
    · have h := wpI_f c7 h
      refine g_iload_n (i := 2) (x := x2) hC (dX11_said_10) rfl rfl ?_
      refine g_if_lt (tgt := 31) hC (dX11_said_11) (by decide) (fun c11 => ?_) (fun c11 => ?_)
      · have h := wpI_t c11 h
        refine g_iconst (v := (-1)) hC (dX11_said_31) kc_m1 ?_
        refine g_ireturn hC hr (dX11_said_32) ?_
        exact wpI_s h
      · have h := wpI_f c11 h
        refine g_iload_n (i := 2) (x := x2) hC (dX11_said_14) rfl rfl ?_
        refine g_iconst (v := 1) hC (dX11_said_15) kc_1 ?_
        refine g_icmp_gt (tgt := 31) hC (dX11_said_16) (by decide) (fun c16 => ?_) (fun c16 => ?_)
        · have h := wpI_t c16 h
          refine g_iconst (v := (-1)) hC (dX11_said_31) kc_m1 ?_
          refine g_ireturn hC hr (dX11_said_32) ?_
          exact wpI_s h
        · have h := wpI_f c16 h
          refine g_aload_n (i := 0) (x := 0) hC (dX11_said_19) rfl rfl ?_
          refine g_getR (r := 34) hC flX11_98 (dX11_said_20) rfl rfl rfl ?_
          refine g_getI hC flX11_330 (dX11_said_23) rfl rfl ?_
          refine g_bipush (v := 12) hC (dX11_said_26) kb_12 ?_
          refine g_icmp_lt (tgt := 33) hC (dX11_said_28) (by decide) (fun c28 => ?_) (fun c28 => ?_)
          · have h := wpI_t c28 h
            refine g_aload_n (i := 0) (x := 0) hC (dX11_said_33) rfl rfl ?_
            refine g_getR (r := 34) hC flX11_98 (dX11_said_34) rfl rfl rfl ?_
            refine g_iload_n (i := 1) (x := x1) hC (dX11_said_37) rfl rfl ?_
            refine g_iload_n (i := 2) (x := x2) hC (dX11_said_38) rfl rfl ?_
            refine g_iconst (v := 1) hC (dX11_said_39) kc_1 ?_
            obtain ⟨s0_48, e_s0_48, h⟩ := wpI_l h
            have hJ1 : G E Γ 3 48 [(0, .ref 0)] [.int s0_48, .int x1, .ref 34] M := by
              refine g_callVv ([.int x1, .int s0_48]) hC wvX11_331 (dX11_said_48) rfl rfl (by omega) (Nat.le_of_ble_eq_true rfl) (cX1_hear_ok (by omega) x1 s0_48 M (K := fun r => r = fX1_hear x1 s0_48 M) rfl) (fun N q => ?_)
              subst q
              refine g_nmM (fun M48 e_M48 => ?_)
              have h := wpI_n e_M48 h
              refine g_aload_n (i := 0) (x := 0) hC (dX11_said_51) rfl rfl ?_
              refine g_getR (r := 34) hC flX11_98 (dX11_said_52) rfl rfl rfl ?_
              refine g_getI hC flX11_330 (dX11_said_55) rfl rfl ?_
              refine g_ireturn hC hr (dX11_said_58) ?_
              exact wpI_s h
            refine g_icmp_ne (tgt := 47) hC (dX11_said_40) (by decide) (fun c40 => ?_) (fun c40 => ?_)
            · rw [if_neg c40] at e_s0_48
              refine g_iconst (v := 0) hC (dX11_said_47) kc_0 ?_
              refine g_sub (lv' := [(0, .ref 0)]) [0] rfl ?_
              subst e_s0_48
              exact hJ1
            · rw [if_pos c40] at e_s0_48
              refine g_iconst (v := 1) hC (dX11_said_43) kc_1 ?_
              refine g_goto (tgt := 48) hC (dX11_said_44) (by decide) ?_
              refine g_sub (lv' := [(0, .ref 0)]) [0] rfl ?_
              subst e_s0_48
              exact hJ1
          · have h := wpI_f c28 h
            refine g_iconst (v := (-1)) hC (dX11_said_31) kc_m1 ?_
            refine g_ireturn hC hr (dX11_said_32) ?_
            exact wpI_s h
/-! LostByState.forget()I -/
theorem dX11_forget_0 : decode cX11_forget 0 = .ok (.aload_n 0, 1) := by decide +kernel
theorem dX11_forget_1 : decode cX11_forget 1 = .ok (.getfield 98, 3) := by decide +kernel
theorem dX11_forget_4 : decode cX11_forget 4 = .ok (.getfield 330, 3) := by decide +kernel
theorem dX11_forget_7 : decode cX11_forget 7 = .ok (.istore_n 1, 1) := by decide +kernel
theorem dX11_forget_8 : decode cX11_forget 8 = .ok (.aload_n 0, 1) := by decide +kernel
theorem dX11_forget_9 : decode cX11_forget 9 = .ok (.getfield 98, 3) := by decide +kernel
theorem dX11_forget_12 : decode cX11_forget 12 = .ok (.invokevirtual 335, 3) := by decide +kernel
theorem dX11_forget_15 : decode cX11_forget 15 = .ok (.iload_n 1, 1) := by decide +kernel
theorem dX11_forget_16 : decode cX11_forget 16 = .ok (.ireturn, 1) := by decide +kernel
def fX11_forget  (M : zM) : Int32 × zM := zlet (M.1 34 2) fun (x1_7 : Int32) =>
  zlet (fX1_clear M) fun (M12 : zM) =>
  (x1_7, M12)
set_option maxHeartbeats 4000000 in
theorem cX11_forget_ok {E : zE} {d : Nat} (hd : 1 ≤ d)  (M : zM) {K : (Int32 × zM) → Prop} (h : wpI (fX11_forget  M) K) : CMi E d yX11_forget cX11_forget 2 (some .int) [.ref 0] M (fun r N => K (r, N)) := by
  refine CMi.of (by decide) (Nat.le_of_ble_eq_true rfl) (fun Γ hC hr => ?_)
  have hC : Cx E Γ RX11 cX11_forget 2 d := hC
  show G E Γ 2 0 [(0, .ref 0)] [] M
  unfold fX11_forget at h
  refine g_aload_n (i := 0) (x := 0) hC (dX11_forget_0) rfl rfl ?_
  refine g_getR (r := 34) hC flX11_98 (dX11_forget_1) rfl rfl rfl ?_
  refine g_getI hC flX11_330 (dX11_forget_4) rfl rfl ?_
  refine g_nmi (fun x1_7 e_x1_7 => ?_)
  have h := wpI_n e_x1_7 h
  refine g_istore_n (i := 1) (lv2 := [(1, .int x1_7), (0, .ref 0)]) hC (dX11_forget_7) rfl (by decide) rfl ?_
  refine g_aload_n (i := 0) (x := 0) hC (dX11_forget_8) rfl rfl ?_
  refine g_getR (r := 34) hC flX11_98 (dX11_forget_9) rfl rfl rfl ?_
  refine g_callVv ([]) hC wvX11_335 (dX11_forget_12) rfl rfl (by omega) (Nat.le_of_ble_eq_true rfl) (cX1_clear_ok (by omega) M (K := fun r => r = fX1_clear M) rfl) (fun N q => ?_)
  subst q
  refine g_nmM (fun M12 e_M12 => ?_)
  have h := wpI_n e_M12 h
  refine g_iload_n (i := 1) (x := x1_7) hC (dX11_forget_15) rfl rfl ?_
  refine g_ireturn hC hr (dX11_forget_16) ?_
  exact wpI_s h
