/-! LostByStateModel.givenBy(III)I -/
theorem dX12_givenBy_0 : decode cX12_givenBy 0 = .ok (.aload_n 0, 1) := by decide +kernel
theorem dX12_givenBy_1 : decode cX12_givenBy 1 = .ok (.aload_n 0, 1) := by decide +kernel
theorem dX12_givenBy_2 : decode cX12_givenBy 2 = .ok (.getfield 9, 3) := by decide +kernel
theorem dX12_givenBy_5 : decode cX12_givenBy 5 = .ok (.aload_n 0, 1) := by decide +kernel
theorem dX12_givenBy_6 : decode cX12_givenBy 6 = .ok (.getfield 37, 3) := by decide +kernel
theorem dX12_givenBy_9 : decode cX12_givenBy 9 = .ok (.iload_n 1, 1) := by decide +kernel
theorem dX12_givenBy_10 : decode cX12_givenBy 10 = .ok (.iaload, 1) := by decide +kernel
theorem dX12_givenBy_11 : decode cX12_givenBy 11 = .ok (.iload_n 3, 1) := by decide +kernel
theorem dX12_givenBy_12 : decode cX12_givenBy 12 = .ok (.invokevirtual 258, 3) := by decide +kernel
theorem dX12_givenBy_15 : decode cX12_givenBy 15 = .ok (.invokestatic 296, 3) := by decide +kernel
theorem dX12_givenBy_18 : decode cX12_givenBy 18 = .ok (.aload_n 0, 1) := by decide +kernel
theorem dX12_givenBy_19 : decode cX12_givenBy 19 = .ok (.getfield 61, 3) := by decide +kernel
theorem dX12_givenBy_22 : decode cX12_givenBy 22 = .ok (.iload_n 1, 1) := by decide +kernel
theorem dX12_givenBy_23 : decode cX12_givenBy 23 = .ok (.iconst 1, 1) := by decide +kernel
theorem dX12_givenBy_24 : decode cX12_givenBy 24 = .ok (.iadd, 1) := by decide +kernel
theorem dX12_givenBy_25 : decode cX12_givenBy 25 = .ok (.bipush 8, 2) := by decide +kernel
theorem dX12_givenBy_27 : decode cX12_givenBy 27 = .ok (.ishl, 1) := by decide +kernel
theorem dX12_givenBy_28 : decode cX12_givenBy 28 = .ok (.iload_n 2, 1) := by decide +kernel
theorem dX12_givenBy_29 : decode cX12_givenBy 29 = .ok (.ior, 1) := by decide +kernel
theorem dX12_givenBy_30 : decode cX12_givenBy 30 = .ok (.iconst 1, 1) := by decide +kernel
theorem dX12_givenBy_31 : decode cX12_givenBy 31 = .ok (.iload_n 3, 1) := by decide +kernel
theorem dX12_givenBy_32 : decode cX12_givenBy 32 = .ok (.ishl, 1) := by decide +kernel
theorem dX12_givenBy_33 : decode cX12_givenBy 33 = .ok (.ior, 1) := by decide +kernel
theorem dX12_givenBy_34 : decode cX12_givenBy 34 = .ok (.iaload, 1) := by decide +kernel
theorem dX12_givenBy_35 : decode cX12_givenBy 35 = .ok (.iadd, 1) := by decide +kernel
theorem dX12_givenBy_36 : decode cX12_givenBy 36 = .ok (.ireturn, 1) := by decide +kernel
def fX12_givenBy (x1 : Int32) (x2 : Int32) (x3 : Int32) (M : zM) : Option (Int32 × zM) := if zin x1 16 then (
  (fX12_matchOf 37 (M.1 43 x1.toNatClampNeg) x3 M).bind fun (q : Int32 × zM) => zp q fun r2 M12 =>
  if zin (((zshl (x1 + 1) 8) ||| x2) ||| (zshl 1 x3)) 1792 then (
  some ((fX12_put r2) + (M12.1 51 (((zshl (x1 + 1) 8) ||| x2) ||| (zshl 1 x3)).toNatClampNeg), M12)) else none) else none
set_option maxHeartbeats 4000000 in
theorem cX12_givenBy_ok {E : zE} {d : Nat} (hd : 106 ≤ d) (x1 : Int32) (x2 : Int32) (x3 : Int32) (M : zM) {K : (Int32 × zM) → Prop} (h : wpO (fX12_givenBy x1 x2 x3 M) K) : CMi E d yX12_givenBy cX12_givenBy 4 (some .int) [.ref 36, .int x1, .int x2, .int x3] M (fun r N => K (r, N)) := by
  refine CMi.of (by decide) (Nat.le_of_ble_eq_true rfl) (fun Γ hC hr => ?_)
  have hC : Cx E Γ RX12 cX12_givenBy 4 d := hC
  show G E Γ 4 0 [(0, .ref 36), (1, .int x1), (2, .int x2), (3, .int x3)] [] M
  unfold fX12_givenBy at h
  refine g_aload_n (i := 0) (x := 36) hC (dX12_givenBy_0) rfl rfl ?_
  refine g_aload_n (i := 0) (x := 36) hC (dX12_givenBy_1) rfl rfl ?_
  refine g_getR (r := 37) hC flX12_9 (dX12_givenBy_2) rfl rfl rfl ?_
  refine g_aload_n (i := 0) (x := 36) hC (dX12_givenBy_5) rfl rfl ?_
  refine g_getR (r := 43) hC flX12_37 (dX12_givenBy_6) rfl rfl rfl ?_
  refine g_iload_n (i := 1) (x := x1) hC (dX12_givenBy_9) rfl rfl ?_
  obtain ⟨q1, h⟩ := wpO_g h
  refine g_iaload (n := 16) hC (dX12_givenBy_10) rfl q1 ?_
  refine g_iload_n (i := 3) (x := x3) hC (dX12_givenBy_11) rfl rfl ?_
  have h := wpO_b h
  refine g_callVi ([.ref 37, .int (M.1 43 x1.toNatClampNeg), .int x3]) hC wvX12_258 (dX12_givenBy_12) rfl rfl (by omega) (Nat.le_of_ble_eq_true rfl) (cX12_matchOf_ok (by omega) 37 (M.1 43 x1.toNatClampNeg) x3 M h) (fun r2 M12 h => ?_)
  have h := wpO_p h
  refine g_callSi ([.int r2]) hC wsX12_296 (dX12_givenBy_15) rfl (by omega) (Nat.le_of_ble_eq_true rfl) (cX12_put_ok (by omega) r2 M12 (K := fun r => r = fX12_put r2) rfl) (fun r N q => ?_)
  obtain ⟨rfl, rfl⟩ := q
  refine g_aload_n (i := 0) (x := 36) hC (dX12_givenBy_18) rfl rfl ?_
  refine g_getR (r := 51) hC flX12_61 (dX12_givenBy_19) rfl rfl rfl ?_
  refine g_iload_n (i := 1) (x := x1) hC (dX12_givenBy_22) rfl rfl ?_
  refine g_iconst (v := 1) hC (dX12_givenBy_23) kc_1 ?_
  refine g_iadd hC (dX12_givenBy_24) ?_
  refine g_bipush (v := 8) hC (dX12_givenBy_25) kb_8 ?_
  refine g_ishl hC (dX12_givenBy_27) ?_
  refine g_iload_n (i := 2) (x := x2) hC (dX12_givenBy_28) rfl rfl ?_
  refine g_ior hC (dX12_givenBy_29) ?_
  refine g_iconst (v := 1) hC (dX12_givenBy_30) kc_1 ?_
  refine g_iload_n (i := 3) (x := x3) hC (dX12_givenBy_31) rfl rfl ?_
  refine g_ishl hC (dX12_givenBy_32) ?_
  refine g_ior hC (dX12_givenBy_33) ?_
  obtain ⟨q4, h⟩ := wpO_g h
  refine g_iaload (n := 1792) hC (dX12_givenBy_34) rfl q4 ?_
  refine g_iadd hC (dX12_givenBy_35) ?_
  refine g_ireturn hC hr (dX12_givenBy_36) ?_
  exact wpO_s h
/-! LostByStateModel.shares()I -/
theorem dX12_shares_0 : decode cX12_shares 0 = .ok (.aload_n 0, 1) := by decide +kernel
theorem dX12_shares_1 : decode cX12_shares 1 = .ok (.iconst 0, 1) := by decide +kernel
theorem dX12_shares_2 : decode cX12_shares 2 = .ok (.putfield 86, 3) := by decide +kernel
theorem dX12_shares_5 : decode cX12_shares 5 = .ok (.aload_n 0, 1) := by decide +kernel
theorem dX12_shares_6 : decode cX12_shares 6 = .ok (.bipush 80, 2) := by decide +kernel
theorem dX12_shares_8 : decode cX12_shares 8 = .ok (.invokevirtual 150, 3) := by decide +kernel
theorem dX12_shares_11 : decode cX12_shares 11 = .ok (.iconst 0, 1) := by decide +kernel
theorem dX12_shares_12 : decode cX12_shares 12 = .ok (.istore_n 1, 1) := by decide +kernel
theorem dX12_shares_13 : decode cX12_shares 13 = .ok (.aload_n 0, 1) := by decide +kernel
theorem dX12_shares_14 : decode cX12_shares 14 = .ok (.getfield 108, 3) := by decide +kernel
theorem dX12_shares_17 : decode cX12_shares 17 = .ok (.ifCond .le 7, 3) := by decide +kernel
theorem dX12_shares_20 : decode cX12_shares 20 = .ok (.iconst 1, 1) := by decide +kernel
theorem dX12_shares_21 : decode cX12_shares 21 = .ok (.goto 4, 3) := by decide +kernel
theorem dX12_shares_24 : decode cX12_shares 24 = .ok (.iconst 0, 1) := by decide +kernel
theorem dX12_shares_25 : decode cX12_shares 25 = .ok (.istore_n 2, 1) := by decide +kernel
theorem dX12_shares_26 : decode cX12_shares 26 = .ok (.iload_n 2, 1) := by decide +kernel
theorem dX12_shares_27 : decode cX12_shares 27 = .ok (.ifCond .eq 78, 3) := by decide +kernel
theorem dX12_shares_30 : decode cX12_shares 30 = .ok (.aload_n 0, 1) := by decide +kernel
theorem dX12_shares_31 : decode cX12_shares 31 = .ok (.invokevirtual 124, 3) := by decide +kernel
theorem dX12_shares_34 : decode cX12_shares 34 = .ok (.ifCond .eq 71, 3) := by decide +kernel
theorem dX12_shares_37 : decode cX12_shares 37 = .ok (.iload_n 1, 1) := by decide +kernel
theorem dX12_shares_38 : decode cX12_shares 38 = .ok (.bipush 6, 2) := by decide +kernel
theorem dX12_shares_40 : decode cX12_shares 40 = .ok (.if_icmp .ne 14, 3) := by decide +kernel
theorem dX12_shares_43 : decode cX12_shares 43 = .ok (.aload_n 0, 1) := by decide +kernel
theorem dX12_shares_44 : decode cX12_shares 44 = .ok (.aload_n 0, 1) := by decide +kernel
theorem dX12_shares_45 : decode cX12_shares 45 = .ok (.getfield 114, 3) := by decide +kernel
theorem dX12_shares_48 : decode cX12_shares 48 = .ok (.invokevirtual 136, 3) := by decide +kernel
theorem dX12_shares_51 : decode cX12_shares 51 = .ok (.goto 41, 3) := by decide +kernel
theorem dX12_shares_54 : decode cX12_shares 54 = .ok (.aload_n 0, 1) := by decide +kernel
theorem dX12_shares_55 : decode cX12_shares 55 = .ok (.getfield 37, 3) := by decide +kernel
theorem dX12_shares_58 : decode cX12_shares 58 = .ok (.iload_n 1, 1) := by decide +kernel
theorem dX12_shares_59 : decode cX12_shares 59 = .ok (.aload_n 0, 1) := by decide +kernel
theorem dX12_shares_60 : decode cX12_shares 60 = .ok (.bipush 97, 2) := by decide +kernel
theorem dX12_shares_62 : decode cX12_shares 62 = .ok (.bipush 8, 2) := by decide +kernel
theorem dX12_shares_64 : decode cX12_shares 64 = .ok (.invokevirtual 153, 3) := by decide +kernel
theorem dX12_shares_67 : decode cX12_shares 67 = .ok (.iastore, 1) := by decide +kernel
theorem dX12_shares_68 : decode cX12_shares 68 = .ok (.aload_n 0, 1) := by decide +kernel
theorem dX12_shares_69 : decode cX12_shares 69 = .ok (.invokevirtual 124, 3) := by decide +kernel
theorem dX12_shares_72 : decode cX12_shares 72 = .ok (.ifCond .eq 20, 3) := by decide +kernel
theorem dX12_shares_75 : decode cX12_shares 75 = .ok (.aload_n 0, 1) := by decide +kernel
theorem dX12_shares_76 : decode cX12_shares 76 = .ok (.getfield 37, 3) := by decide +kernel
theorem dX12_shares_79 : decode cX12_shares 79 = .ok (.iload_n 1, 1) := by decide +kernel
theorem dX12_shares_80 : decode cX12_shares 80 = .ok (.iaload, 1) := by decide +kernel
theorem dX12_shares_81 : decode cX12_shares 81 = .ok (.ifCond .ne 11, 3) := by decide +kernel
theorem dX12_shares_84 : decode cX12_shares 84 = .ok (.aload_n 0, 1) := by decide +kernel
theorem dX12_shares_85 : decode cX12_shares 85 = .ok (.aload_n 0, 1) := by decide +kernel
theorem dX12_shares_86 : decode cX12_shares 86 = .ok (.getfield 114, 3) := by decide +kernel
theorem dX12_shares_89 : decode cX12_shares 89 = .ok (.invokevirtual 136, 3) := by decide +kernel
theorem dX12_shares_92 : decode cX12_shares 92 = .ok (.iinc 1 1, 3) := by decide +kernel
theorem dX12_shares_95 : decode cX12_shares 95 = .ok (.aload_n 0, 1) := by decide +kernel
theorem dX12_shares_96 : decode cX12_shares 96 = .ok (.bipush 59, 2) := by decide +kernel
theorem dX12_shares_98 : decode cX12_shares 98 = .ok (.invokevirtual 132, 3) := by decide +kernel
theorem dX12_shares_101 : decode cX12_shares 101 = .ok (.istore_n 2, 1) := by decide +kernel
theorem dX12_shares_102 : decode cX12_shares 102 = .ok (.goto (-76), 3) := by decide +kernel
theorem dX12_shares_105 : decode cX12_shares 105 = .ok (.aload_n 0, 1) := by decide +kernel
theorem dX12_shares_106 : decode cX12_shares 106 = .ok (.invokevirtual 157, 3) := by decide +kernel
theorem dX12_shares_109 : decode cX12_shares 109 = .ok (.ifCond .ne 10, 3) := by decide +kernel
theorem dX12_shares_112 : decode cX12_shares 112 = .ok (.iconst (-1), 1) := by decide +kernel
theorem dX12_shares_113 : decode cX12_shares 113 = .ok (.aload_n 0, 1) := by decide +kernel
theorem dX12_shares_114 : decode cX12_shares 114 = .ok (.getfield 117, 3) := by decide +kernel
theorem dX12_shares_117 : decode cX12_shares 117 = .ok (.isub, 1) := by decide +kernel
theorem dX12_shares_118 : decode cX12_shares 118 = .ok (.ireturn, 1) := by decide +kernel
theorem dX12_shares_119 : decode cX12_shares 119 = .ok (.aload_n 0, 1) := by decide +kernel
theorem dX12_shares_120 : decode cX12_shares 120 = .ok (.aload_n 0, 1) := by decide +kernel
theorem dX12_shares_121 : decode cX12_shares 121 = .ok (.getfield 9, 3) := by decide +kernel
theorem dX12_shares_124 : decode cX12_shares 124 = .ok (.iconst 2, 1) := by decide +kernel
theorem dX12_shares_125 : decode cX12_shares 125 = .ok (.invokevirtual 209, 3) := by decide +kernel
theorem dX12_shares_128 : decode cX12_shares 128 = .ok (.istore_n 3, 1) := by decide +kernel
theorem dX12_shares_129 : decode cX12_shares 129 = .ok (.iconst 0, 1) := by decide +kernel
theorem dX12_shares_130 : decode cX12_shares 130 = .ok (.istore 4, 2) := by decide +kernel
theorem dX12_shares_132 : decode cX12_shares 132 = .ok (.iload 4, 2) := by decide +kernel
theorem dX12_shares_134 : decode cX12_shares 134 = .ok (.aload_n 0, 1) := by decide +kernel
theorem dX12_shares_135 : decode cX12_shares 135 = .ok (.invokevirtual 233, 3) := by decide +kernel
theorem dX12_shares_138 : decode cX12_shares 138 = .ok (.if_icmp .gt 22, 3) := by decide +kernel
theorem dX12_shares_141 : decode cX12_shares 141 = .ok (.aload_n 0, 1) := by decide +kernel
theorem dX12_shares_142 : decode cX12_shares 142 = .ok (.getfield 61, 3) := by decide +kernel
theorem dX12_shares_145 : decode cX12_shares 145 = .ok (.iload_n 1, 1) := by decide +kernel
theorem dX12_shares_146 : decode cX12_shares 146 = .ok (.bipush 8, 2) := by decide +kernel
theorem dX12_shares_148 : decode cX12_shares 148 = .ok (.ishl, 1) := by decide +kernel
theorem dX12_shares_149 : decode cX12_shares 149 = .ok (.iload 4, 2) := by decide +kernel
theorem dX12_shares_151 : decode cX12_shares 151 = .ok (.ior, 1) := by decide +kernel
theorem dX12_shares_152 : decode cX12_shares 152 = .ok (.iconst 0, 1) := by decide +kernel
theorem dX12_shares_153 : decode cX12_shares 153 = .ok (.iastore, 1) := by decide +kernel
theorem dX12_shares_154 : decode cX12_shares 154 = .ok (.iinc 4 1, 3) := by decide +kernel
theorem dX12_shares_157 : decode cX12_shares 157 = .ok (.goto (-25), 3) := by decide +kernel
theorem dX12_shares_160 : decode cX12_shares 160 = .ok (.iload_n 1, 1) := by decide +kernel
theorem dX12_shares_161 : decode cX12_shares 161 = .ok (.iconst 1, 1) := by decide +kernel
theorem dX12_shares_162 : decode cX12_shares 162 = .ok (.isub, 1) := by decide +kernel
theorem dX12_shares_163 : decode cX12_shares 163 = .ok (.istore 4, 2) := by decide +kernel
theorem dX12_shares_165 : decode cX12_shares 165 = .ok (.iload 4, 2) := by decide +kernel
theorem dX12_shares_167 : decode cX12_shares 167 = .ok (.ifCond .lt 108, 3) := by decide +kernel
theorem dX12_shares_170 : decode cX12_shares 170 = .ok (.iconst 0, 1) := by decide +kernel
theorem dX12_shares_171 : decode cX12_shares 171 = .ok (.istore 5, 2) := by decide +kernel
theorem dX12_shares_173 : decode cX12_shares 173 = .ok (.iload 5, 2) := by decide +kernel
theorem dX12_shares_175 : decode cX12_shares 175 = .ok (.aload_n 0, 1) := by decide +kernel
theorem dX12_shares_176 : decode cX12_shares 176 = .ok (.invokevirtual 233, 3) := by decide +kernel
theorem dX12_shares_179 : decode cX12_shares 179 = .ok (.if_icmp .gt 90, 3) := by decide +kernel
theorem dX12_shares_182 : decode cX12_shares 182 = .ok (.aload_n 0, 1) := by decide +kernel
theorem dX12_shares_183 : decode cX12_shares 183 = .ok (.getfield 61, 3) := by decide +kernel
theorem dX12_shares_186 : decode cX12_shares 186 = .ok (.iload 4, 2) := by decide +kernel
theorem dX12_shares_188 : decode cX12_shares 188 = .ok (.iconst 1, 1) := by decide +kernel
theorem dX12_shares_189 : decode cX12_shares 189 = .ok (.iadd, 1) := by decide +kernel
theorem dX12_shares_190 : decode cX12_shares 190 = .ok (.bipush 8, 2) := by decide +kernel
theorem dX12_shares_192 : decode cX12_shares 192 = .ok (.ishl, 1) := by decide +kernel
theorem dX12_shares_193 : decode cX12_shares 193 = .ok (.iload 5, 2) := by decide +kernel
theorem dX12_shares_195 : decode cX12_shares 195 = .ok (.ior, 1) := by decide +kernel
theorem dX12_shares_196 : decode cX12_shares 196 = .ok (.iaload, 1) := by decide +kernel
theorem dX12_shares_197 : decode cX12_shares 197 = .ok (.istore 6, 2) := by decide +kernel
theorem dX12_shares_199 : decode cX12_shares 199 = .ok (.iconst 0, 1) := by decide +kernel
theorem dX12_shares_200 : decode cX12_shares 200 = .ok (.istore 7, 2) := by decide +kernel
theorem dX12_shares_202 : decode cX12_shares 202 = .ok (.iload 7, 2) := by decide +kernel
theorem dX12_shares_204 : decode cX12_shares 204 = .ok (.aload_n 0, 1) := by decide +kernel
theorem dX12_shares_205 : decode cX12_shares 205 = .ok (.getfield 92, 3) := by decide +kernel
theorem dX12_shares_208 : decode cX12_shares 208 = .ok (.if_icmp .ge 40, 3) := by decide +kernel
theorem dX12_shares_211 : decode cX12_shares 211 = .ok (.iload_n 3, 1) := by decide +kernel
theorem dX12_shares_212 : decode cX12_shares 212 = .ok (.iload 5, 2) := by decide +kernel
theorem dX12_shares_214 : decode cX12_shares 214 = .ok (.iconst (-1), 1) := by decide +kernel
theorem dX12_shares_215 : decode cX12_shares 215 = .ok (.ixor, 1) := by decide +kernel
theorem dX12_shares_216 : decode cX12_shares 216 = .ok (.iand, 1) := by decide +kernel
theorem dX12_shares_217 : decode cX12_shares 217 = .ok (.iload 7, 2) := by decide +kernel
theorem dX12_shares_219 : decode cX12_shares 219 = .ok (.invokestatic 216, 3) := by decide +kernel
theorem dX12_shares_222 : decode cX12_shares 222 = .ok (.ifCond .eq 20, 3) := by decide +kernel
theorem dX12_shares_225 : decode cX12_shares 225 = .ok (.iload 6, 2) := by decide +kernel
theorem dX12_shares_227 : decode cX12_shares 227 = .ok (.aload_n 0, 1) := by decide +kernel
theorem dX12_shares_228 : decode cX12_shares 228 = .ok (.iload 4, 2) := by decide +kernel
theorem dX12_shares_230 : decode cX12_shares 230 = .ok (.iload 5, 2) := by decide +kernel
theorem dX12_shares_232 : decode cX12_shares 232 = .ok (.iload 7, 2) := by decide +kernel
theorem dX12_shares_234 : decode cX12_shares 234 = .ok (.invokevirtual 299, 3) := by decide +kernel
theorem dX12_shares_237 : decode cX12_shares 237 = .ok (.invokestatic 206, 3) := by decide +kernel
theorem dX12_shares_240 : decode cX12_shares 240 = .ok (.istore 6, 2) := by decide +kernel
theorem dX12_shares_242 : decode cX12_shares 242 = .ok (.iinc 7 1, 3) := by decide +kernel
theorem dX12_shares_245 : decode cX12_shares 245 = .ok (.goto (-43), 3) := by decide +kernel
theorem dX12_shares_248 : decode cX12_shares 248 = .ok (.aload_n 0, 1) := by decide +kernel
theorem dX12_shares_249 : decode cX12_shares 249 = .ok (.getfield 61, 3) := by decide +kernel
theorem dX12_shares_252 : decode cX12_shares 252 = .ok (.iload 4, 2) := by decide +kernel
theorem dX12_shares_254 : decode cX12_shares 254 = .ok (.bipush 8, 2) := by decide +kernel
theorem dX12_shares_256 : decode cX12_shares 256 = .ok (.ishl, 1) := by decide +kernel
theorem dX12_shares_257 : decode cX12_shares 257 = .ok (.iload 5, 2) := by decide +kernel
theorem dX12_shares_259 : decode cX12_shares 259 = .ok (.ior, 1) := by decide +kernel
theorem dX12_shares_260 : decode cX12_shares 260 = .ok (.iload 6, 2) := by decide +kernel
theorem dX12_shares_262 : decode cX12_shares 262 = .ok (.iastore, 1) := by decide +kernel
theorem dX12_shares_263 : decode cX12_shares 263 = .ok (.iinc 5 1, 3) := by decide +kernel
theorem dX12_shares_266 : decode cX12_shares 266 = .ok (.goto (-93), 3) := by decide +kernel
theorem dX12_shares_269 : decode cX12_shares 269 = .ok (.iinc 4 (-1), 3) := by decide +kernel
theorem dX12_shares_272 : decode cX12_shares 272 = .ok (.goto (-107), 3) := by decide +kernel
theorem dX12_shares_275 : decode cX12_shares 275 = .ok (.aload_n 0, 1) := by decide +kernel
theorem dX12_shares_276 : decode cX12_shares 276 = .ok (.iconst 0, 1) := by decide +kernel
theorem dX12_shares_277 : decode cX12_shares 277 = .ok (.putfield 89, 3) := by decide +kernel
theorem dX12_shares_280 : decode cX12_shares 280 = .ok (.iconst 0, 1) := by decide +kernel
theorem dX12_shares_281 : decode cX12_shares 281 = .ok (.istore 4, 2) := by decide +kernel
theorem dX12_shares_283 : decode cX12_shares 283 = .ok (.iconst 0, 1) := by decide +kernel
theorem dX12_shares_284 : decode cX12_shares 284 = .ok (.istore 5, 2) := by decide +kernel
theorem dX12_shares_286 : decode cX12_shares 286 = .ok (.iload 5, 2) := by decide +kernel
theorem dX12_shares_288 : decode cX12_shares 288 = .ok (.iload_n 1, 1) := by decide +kernel
theorem dX12_shares_289 : decode cX12_shares 289 = .ok (.if_icmp .ge 101, 3) := by decide +kernel
theorem dX12_shares_292 : decode cX12_shares 292 = .ok (.aload_n 0, 1) := by decide +kernel
theorem dX12_shares_293 : decode cX12_shares 293 = .ok (.getfield 61, 3) := by decide +kernel
theorem dX12_shares_296 : decode cX12_shares 296 = .ok (.iload 5, 2) := by decide +kernel
theorem dX12_shares_298 : decode cX12_shares 298 = .ok (.bipush 8, 2) := by decide +kernel
theorem dX12_shares_300 : decode cX12_shares 300 = .ok (.ishl, 1) := by decide +kernel
theorem dX12_shares_301 : decode cX12_shares 301 = .ok (.iload 4, 2) := by decide +kernel
theorem dX12_shares_303 : decode cX12_shares 303 = .ok (.ior, 1) := by decide +kernel
theorem dX12_shares_304 : decode cX12_shares 304 = .ok (.iaload, 1) := by decide +kernel
theorem dX12_shares_305 : decode cX12_shares 305 = .ok (.istore 6, 2) := by decide +kernel
theorem dX12_shares_307 : decode cX12_shares 307 = .ok (.iconst (-1), 1) := by decide +kernel
theorem dX12_shares_308 : decode cX12_shares 308 = .ok (.istore 7, 2) := by decide +kernel
theorem dX12_shares_310 : decode cX12_shares 310 = .ok (.aload_n 0, 1) := by decide +kernel
theorem dX12_shares_311 : decode cX12_shares 311 = .ok (.getfield 61, 3) := by decide +kernel
theorem dX12_shares_314 : decode cX12_shares 314 = .ok (.iload 5, 2) := by decide +kernel
theorem dX12_shares_316 : decode cX12_shares 316 = .ok (.iconst 1, 1) := by decide +kernel
theorem dX12_shares_317 : decode cX12_shares 317 = .ok (.iadd, 1) := by decide +kernel
theorem dX12_shares_318 : decode cX12_shares 318 = .ok (.bipush 8, 2) := by decide +kernel
theorem dX12_shares_320 : decode cX12_shares 320 = .ok (.ishl, 1) := by decide +kernel
theorem dX12_shares_321 : decode cX12_shares 321 = .ok (.iload 4, 2) := by decide +kernel
theorem dX12_shares_323 : decode cX12_shares 323 = .ok (.ior, 1) := by decide +kernel
theorem dX12_shares_324 : decode cX12_shares 324 = .ok (.iaload, 1) := by decide +kernel
theorem dX12_shares_325 : decode cX12_shares 325 = .ok (.iload 6, 2) := by decide +kernel
theorem dX12_shares_327 : decode cX12_shares 327 = .ok (.if_icmp .eq 50, 3) := by decide +kernel
theorem dX12_shares_330 : decode cX12_shares 330 = .ok (.iconst 0, 1) := by decide +kernel
theorem dX12_shares_331 : decode cX12_shares 331 = .ok (.istore 7, 2) := by decide +kernel
theorem dX12_shares_333 : decode cX12_shares 333 = .ok (.iload_n 3, 1) := by decide +kernel
theorem dX12_shares_334 : decode cX12_shares 334 = .ok (.iload 4, 2) := by decide +kernel
theorem dX12_shares_336 : decode cX12_shares 336 = .ok (.iconst (-1), 1) := by decide +kernel
theorem dX12_shares_337 : decode cX12_shares 337 = .ok (.ixor, 1) := by decide +kernel
theorem dX12_shares_338 : decode cX12_shares 338 = .ok (.iand, 1) := by decide +kernel
theorem dX12_shares_339 : decode cX12_shares 339 = .ok (.iload 7, 2) := by decide +kernel
theorem dX12_shares_341 : decode cX12_shares 341 = .ok (.invokestatic 216, 3) := by decide +kernel
theorem dX12_shares_344 : decode cX12_shares 344 = .ok (.ifCond .eq 18, 3) := by decide +kernel
theorem dX12_shares_347 : decode cX12_shares 347 = .ok (.aload_n 0, 1) := by decide +kernel
theorem dX12_shares_348 : decode cX12_shares 348 = .ok (.iload 5, 2) := by decide +kernel
theorem dX12_shares_350 : decode cX12_shares 350 = .ok (.iload 4, 2) := by decide +kernel
theorem dX12_shares_352 : decode cX12_shares 352 = .ok (.iload 7, 2) := by decide +kernel
theorem dX12_shares_354 : decode cX12_shares 354 = .ok (.invokevirtual 299, 3) := by decide +kernel
theorem dX12_shares_357 : decode cX12_shares 357 = .ok (.iload 6, 2) := by decide +kernel
theorem dX12_shares_359 : decode cX12_shares 359 = .ok (.if_icmp .eq 9, 3) := by decide +kernel
theorem dX12_shares_362 : decode cX12_shares 362 = .ok (.iinc 7 1, 3) := by decide +kernel
theorem dX12_shares_365 : decode cX12_shares 365 = .ok (.goto (-32), 3) := by decide +kernel
theorem dX12_shares_368 : decode cX12_shares 368 = .ok (.iload 4, 2) := by decide +kernel
theorem dX12_shares_370 : decode cX12_shares 370 = .ok (.iconst 1, 1) := by decide +kernel
theorem dX12_shares_371 : decode cX12_shares 371 = .ok (.iload 7, 2) := by decide +kernel
theorem dX12_shares_373 : decode cX12_shares 373 = .ok (.ishl, 1) := by decide +kernel
theorem dX12_shares_374 : decode cX12_shares 374 = .ok (.ior, 1) := by decide +kernel
theorem dX12_shares_375 : decode cX12_shares 375 = .ok (.istore 4, 2) := by decide +kernel
theorem dX12_shares_377 : decode cX12_shares 377 = .ok (.aload_n 0, 1) := by decide +kernel
theorem dX12_shares_378 : decode cX12_shares 378 = .ok (.iload 7, 2) := by decide +kernel
theorem dX12_shares_380 : decode cX12_shares 380 = .ok (.i2l, 1) := by decide +kernel
theorem dX12_shares_381 : decode cX12_shares 381 = .ok (.invokevirtual 280, 3) := by decide +kernel
theorem dX12_shares_384 : decode cX12_shares 384 = .ok (.iinc 5 1, 3) := by decide +kernel
theorem dX12_shares_387 : decode cX12_shares 387 = .ok (.goto (-101), 3) := by decide +kernel
theorem dX12_shares_390 : decode cX12_shares 390 = .ok (.aload_n 0, 1) := by decide +kernel
theorem dX12_shares_391 : decode cX12_shares 391 = .ok (.getfield 61, 3) := by decide +kernel
theorem dX12_shares_394 : decode cX12_shares 394 = .ok (.iconst 0, 1) := by decide +kernel
theorem dX12_shares_395 : decode cX12_shares 395 = .ok (.iaload, 1) := by decide +kernel
theorem dX12_shares_396 : decode cX12_shares 396 = .ok (.ireturn, 1) := by decide +kernel
def fX12_shares_L26 : Nat → Int32 → Int32 → zM → Option (Int32 × zM)
  | 0, _, _, _ => none
  | n + 1, x1, x2, M => if x2 = 0 then (
    some (x1, M))
    else (
    if (fX12_fine M) = 0 then (
    some (x1, M))
    else (
    (if x1 = 6 then (
    zlet (fX12_fault (M.1 36 16) M) fun (M48 : zM) =>
    some M48)
    else (
    (fX12_rising 97 8 M).bind fun (q : Int32 × zM) => zp q fun r5 M64 =>
    if zin x1 16 then (
    zlet (zSI M64 43 x1.toNatClampNeg r5) fun (M67 : zM) =>
    if (fX12_fine M67) = 0 then (
    some M67)
    else (
    if (M67.1 43 x1.toNatClampNeg) = 0 then (
    zlet (fX12_fault (M67.1 36 16) M67) fun (M89 : zM) =>
    some M89)
    else (
    some M67))) else none) : Option zM).bind fun (M_92 : zM) =>
    (fX12_passes 59 M_92).bind fun (q : Int32 × zM) => zp q fun r10 M98 =>
    fX12_shares_L26 n (x1 + 1) r10 M98))
def fX12_shares_L132 (x1 : Int32) (x3 : Int32) : Nat → Int32 → zM → Option zM
  | 0, _, _ => none
  | n + 1, x4, M => if (fX12_all M) < x4 then (
    some M)
    else (
    if zin ((zshl x1 8) ||| x4) 1792 then (
    zlet (zSI M 51 ((zshl x1 8) ||| x4).toNatClampNeg 0) fun (M153 : zM) =>
    fX12_shares_L132 x1 x3 n (x4 + 1) M153) else none)
def fX12_shares_L202 (x1 : Int32) (x3 : Int32) (x4 : Int32) (x5 : Int32) : Nat → Int32 → Int32 → zM → Option (Int32 × zM)
  | 0, _, _, _ => none
  | n + 1, x6, x7, M => if (M.1 36 1) ≤ x7 then (
    some (x6, M))
    else (
    (if (fX12_has (x3 &&& (x5 ^^^ (-1))) x7) = 0 then (
    some (x6, M))
    else (
    (fX12_givenBy x4 x5 x7 M).bind fun (q : Int32 × zM) => zp q fun r19 M234 =>
    zlet (zmax x6 r19) fun (x6_240 : Int32) =>
    some (x6_240, M234)) : Option (Int32 × zM)).bind fun (q : Int32 × zM) => zp q fun x6_242 M_242 =>
    fX12_shares_L202 x1 x3 x4 x5 n x6_242 (x7 + 1) M_242)
def fX12_shares_L173 (x1 : Int32) (x3 : Int32) (x4 : Int32) : Nat → Int32 → zM → Option zM
  | 0, _, _ => none
  | n + 1, x5, M => if (fX12_all M) < x5 then (
    some M)
    else (
    if zin ((zshl (x4 + 1) 8) ||| x5) 1792 then (
    zlet (M.1 51 ((zshl (x4 + 1) 8) ||| x5).toNatClampNeg) fun (x6_197 : Int32) =>
    (fX12_shares_L202 x1 x3 x4 x5 4000 x6_197 0 M).bind fun (q : Int32 × zM) => zp q fun x6_248 M_248 =>
    if zin ((zshl x4 8) ||| x5) 1792 then (
    zlet (zSI M_248 51 ((zshl x4 8) ||| x5).toNatClampNeg x6_248) fun (M262 : zM) =>
    fX12_shares_L173 x1 x3 x4 n (x5 + 1) M262) else none) else none)
def fX12_shares_L165 (x1 : Int32) (x3 : Int32) : Nat → Int32 → zM → Option zM
  | 0, _, _ => none
  | n + 1, x4, M => if x4 < 0 then (
    some M)
    else (
    (fX12_shares_L173 x1 x3 x4 4000 0 M).bind fun (M_269 : zM) =>
    fX12_shares_L165 x1 x3 n (x4 + (-1)) M_269)
def fX12_shares_L333 (x1 : Int32) (x3 : Int32) (x4 : Int32) (x5 : Int32) (x6 : Int32) : Nat → Int32 → zM → Option (Int32 × zM)
  | 0, _, _ => none
  | n + 1, x7, M => zj (fun (M_362 : zM) =>
    fX12_shares_L333 x1 x3 x4 x5 x6 n (x7 + 1) M_362)
    fun J25 =>
    if (fX12_has (x3 &&& (x4 ^^^ (-1))) x7) = 0 then (
    J25 M)
    else (
    (fX12_givenBy x5 x4 x7 M).bind fun (q : Int32 × zM) => zp q fun r26 M354 =>
    if r26 = x6 then (
    some (x7, M354))
    else (
    J25 M354))
def fX12_shares_L286 (x1 : Int32) (x3 : Int32) : Nat → Int32 → Int32 → zM → Option zM
  | 0, _, _, _ => none
  | n + 1, x4, x5, M => if x1 ≤ x5 then (
    some M)
    else (
    if zin ((zshl x5 8) ||| x4) 1792 then (
    zlet (M.1 51 ((zshl x5 8) ||| x4).toNatClampNeg) fun (x6_305 : Int32) =>
    if zin ((zshl (x5 + 1) 8) ||| x4) 1792 then (
    (if (M.1 51 ((zshl (x5 + 1) 8) ||| x4).toNatClampNeg) = x6_305 then (
    some (x4, (-1), M))
    else (
    (fX12_shares_L333 x1 x3 x4 x5 x6_305 4000 0 M).bind fun (q : Int32 × zM) => zp q fun x7_368 M_368 =>
    zlet (x4 ||| (zshl 1 x7_368)) fun (x4_375 : Int32) =>
    some (x4_375, x7_368, M_368)) : Option (Int32 × Int32 × zM)).bind fun (q : Int32 × Int32 × zM) => zp q fun x4_377 q => zp q fun x7_377 M_377 =>
    (fX12_tell x7_377.toInt64 M_377).bind fun (M381 : zM) =>
    fX12_shares_L286 x1 x3 n x4_377 (x5 + 1) M381) else none) else none)
def fX12_shares  (M : zM) : Option (Int32 × zM) := zlet (zSI M 36 12 0) fun (M2 : zM) =>
  zlet (fX12_beginText 80 M2) fun (M8 : zM) =>
  zlet (if (M8.1 36 14) ≤ 0 then (
  0)
  else (
  1)) fun (s0_25 : Int32) =>
  (fX12_shares_L26 4000 0 s0_25 M8).bind fun (q : Int32 × zM) => zp q fun x1_105 M_105 =>
  zlet ((fX12_wasRight M_105).2) fun (M106 : zM) =>
  if ((fX12_wasRight M_105).1) = 0 then (
  some ((-1) - (M106.1 36 17), M106))
  else (
  (fX12_those 37 2 M106).bind fun (r12 : Int32) =>
  (fX12_shares_L132 x1_105 r12 4000 0 M106).bind fun (M_160 : zM) =>
  zlet (x1_105 - 1) fun (x4_163 : Int32) =>
  (fX12_shares_L165 x1_105 r12 4000 x4_163 M_160).bind fun (M_275 : zM) =>
  zlet (zSI M_275 36 11 0) fun (M277 : zM) =>
  (fX12_shares_L286 x1_105 r12 4000 0 0 M277).bind fun (M_390 : zM) =>
  some (M_390.1 51 0, M_390))
set_option maxHeartbeats 4000000 in
theorem lX12_shares_26 {E : zE} {Γ : zT} {d : Nat} {K1 : (Int32 × zM) → Prop} (hC : Cx E Γ RX12 cX12_shares 8 d) (hd : 107 ≤ d) (hx : ∀ (x1_105 : Int32) (M_105 : zM), K1 (x1_105, M_105) → G E Γ 8 105 [(0, .ref 36), (1, .int x1_105)] [] M_105) :
    ∀ (n : Nat) (x1 : Int32) (x2 : Int32) (M : zM), wpO (fX12_shares_L26 n x1 x2 M) K1 → G E Γ 8 26 [(0, .ref 36), (1, .int x1), (2, .int x2)] [] M := by
  intro n
  induction n with
  | zero =>
    intro x1 x2 M h
    exact (wpO_0 h).elim
  | succ n ih =>
    intro x1 x2 M h
    rw [fX12_shares_L26.eq_2] at h
    refine g_iload_n (i := 2) (x := x2) hC (dX12_shares_26) rfl rfl ?_
    refine g_if_eq (tgt := 105) hC (dX12_shares_27) (by decide) (fun c27 => ?_) (fun c27 => ?_)
    · have h := wpO_t c27 h
      refine g_sub (lv' := [(0, .ref 36), (1, .int x1)]) [0, 1] rfl ?_
      exact hx _ _ (wpO_s h)
    · have h := wpO_f c27 h
      refine g_aload_n (i := 0) (x := 36) hC (dX12_shares_30) rfl rfl ?_
      refine g_callVi ([]) hC wvX12_124 (dX12_shares_31) rfl rfl (by omega) (Nat.le_of_ble_eq_true rfl) (cX12_fine_ok (by omega) M (K := fun r => r = fX12_fine M) rfl) (fun r N q => ?_)
      obtain ⟨rfl, rfl⟩ := q
      refine g_if_eq (tgt := 105) hC (dX12_shares_34) (by decide) (fun c34 => ?_) (fun c34 => ?_)
      · have h := wpO_t c34 h
        refine g_sub (lv' := [(0, .ref 36), (1, .int x1)]) [0, 1] rfl ?_
        exact hx _ _ (wpO_s h)
      · have h := wpO_f c34 h
        refine g_iload_n (i := 1) (x := x1) hC (dX12_shares_37) rfl rfl ?_
        refine g_bipush (v := 6) hC (dX12_shares_38) kb_6 ?_
        refine wpO_bJ h (fun KJ4 hKJ4 h => ?_)
        have hJ4 : ∀ (M_92 : zM), KJ4 M_92 → G E Γ 8 92 [(0, .ref 36), (1, .int x1)] [] M_92 := by
          intro M_92 h
          have h := hKJ4 _ h
          refine g_iinc (x := x1) (v := (x1 + 1)) (lv2 := [(1, .int (x1 + 1)), (0, .ref 36)]) hC (dX12_shares_92) rfl rfl (by decide) rfl ?_
          refine g_aload_n (i := 0) (x := 36) hC (dX12_shares_95) rfl rfl ?_
          refine g_bipush (v := 59) hC (dX12_shares_96) kb_59 ?_
          have h := wpO_b h
          refine g_callVi ([.int 59]) hC wvX12_132 (dX12_shares_98) rfl rfl (by omega) (Nat.le_of_ble_eq_true rfl) (cX12_passes_ok (by omega) 59 M_92 h) (fun r10 M98 h => ?_)
          have h := wpO_p h
          refine g_istore_n (i := 2) (lv2 := [(2, .int r10), (1, .int (x1 + 1)), (0, .ref 36)]) hC (dX12_shares_101) rfl (by decide) rfl ?_
          refine g_goto (tgt := 26) hC (dX12_shares_102) (by decide) ?_
          refine g_sub (lv' := [(0, .ref 36), (1, .int (x1 + 1)), (2, .int r10)]) [2, 1, 0] rfl ?_
          exact ih _ _ _ h
        refine g_icmp_ne (tgt := 54) hC (dX12_shares_40) (by decide) (fun c40 => ?_) (fun c40 => ?_)
        · have h := wpO_f c40 h
          refine g_aload_n (i := 0) (x := 36) hC (dX12_shares_54) rfl rfl ?_
          refine g_getR (r := 43) hC flX12_37 (dX12_shares_55) rfl rfl rfl ?_
          refine g_iload_n (i := 1) (x := x1) hC (dX12_shares_58) rfl rfl ?_
          refine g_aload_n (i := 0) (x := 36) hC (dX12_shares_59) rfl rfl ?_
          refine g_bipush (v := 97) hC (dX12_shares_60) kb_97 ?_
          refine g_bipush (v := 8) hC (dX12_shares_62) kb_8 ?_
          have h := wpO_b h
          refine g_callVi ([.int 97, .int 8]) hC wvX12_153 (dX12_shares_64) rfl rfl (by omega) (Nat.le_of_ble_eq_true rfl) (cX12_rising_ok (by omega) 97 8 M h) (fun r5 M64 h => ?_)
          have h := wpO_p h
          obtain ⟨q6, h⟩ := wpO_g h
          refine g_iastore (n := 16) hC (dX12_shares_67) rfl q6 ?_
          refine g_nmM (fun M67 e_M67 => ?_)
          have h := wpO_n e_M67 h
          refine g_aload_n (i := 0) (x := 36) hC (dX12_shares_68) rfl rfl ?_
          refine g_callVi ([]) hC wvX12_124 (dX12_shares_69) rfl rfl (by omega) (Nat.le_of_ble_eq_true rfl) (cX12_fine_ok (by omega) M67 (K := fun r => r = fX12_fine M67) rfl) (fun r N q => ?_)
          obtain ⟨rfl, rfl⟩ := q
          refine g_if_eq (tgt := 92) hC (dX12_shares_72) (by decide) (fun c72 => ?_) (fun c72 => ?_)
          · have h := wpO_t c72 h
            refine g_sub (lv' := [(0, .ref 36), (1, .int x1)]) [0, 1] rfl ?_
            exact hJ4 _ (wpO_s h)
          · have h := wpO_f c72 h
            refine g_aload_n (i := 0) (x := 36) hC (dX12_shares_75) rfl rfl ?_
            refine g_getR (r := 43) hC flX12_37 (dX12_shares_76) rfl rfl rfl ?_
            refine g_iload_n (i := 1) (x := x1) hC (dX12_shares_79) rfl rfl ?_
            refine g_iaload (n := 16) hC (dX12_shares_80) rfl q6 ?_
            refine g_if_ne (tgt := 92) hC (dX12_shares_81) (by decide) (fun c81 => ?_) (fun c81 => ?_)
            · have h := wpO_f c81 h
              refine g_sub (lv' := [(0, .ref 36), (1, .int x1)]) [0, 1] rfl ?_
              exact hJ4 _ (wpO_s h)
            · have h := wpO_t c81 h
              refine g_aload_n (i := 0) (x := 36) hC (dX12_shares_84) rfl rfl ?_
              refine g_aload_n (i := 0) (x := 36) hC (dX12_shares_85) rfl rfl ?_
              refine g_getI hC flX12_114 (dX12_shares_86) rfl rfl ?_
              refine g_callVv ([.int (M67.1 36 16)]) hC wvX12_136 (dX12_shares_89) rfl rfl (by omega) (Nat.le_of_ble_eq_true rfl) (cX12_fault_ok (by omega) (M67.1 36 16) M67 (K := fun r => r = fX12_fault (M67.1 36 16) M67) rfl) (fun N q => ?_)
              subst q
              refine g_nmM (fun M89 e_M89 => ?_)
              have h := wpO_n e_M89 h
              refine g_sub (lv' := [(0, .ref 36), (1, .int x1)]) [0, 1] rfl ?_
              exact hJ4 _ (wpO_s h)
        · have h := wpO_t c40 h
          refine g_aload_n (i := 0) (x := 36) hC (dX12_shares_43) rfl rfl ?_
          refine g_aload_n (i := 0) (x := 36) hC (dX12_shares_44) rfl rfl ?_
          refine g_getI hC flX12_114 (dX12_shares_45) rfl rfl ?_
          refine g_callVv ([.int (M.1 36 16)]) hC wvX12_136 (dX12_shares_48) rfl rfl (by omega) (Nat.le_of_ble_eq_true rfl) (cX12_fault_ok (by omega) (M.1 36 16) M (K := fun r => r = fX12_fault (M.1 36 16) M) rfl) (fun N q => ?_)
          subst q
          refine g_nmM (fun M48 e_M48 => ?_)
          have h := wpO_n e_M48 h
          refine g_goto (tgt := 92) hC (dX12_shares_51) (by decide) ?_
          refine g_sub (lv' := [(0, .ref 36), (1, .int x1)]) [0, 1] rfl ?_
          exact hJ4 _ (wpO_s h)
set_option maxHeartbeats 4000000 in
theorem lX12_shares_132 {E : zE} {Γ : zT} {d : Nat} {K1 : zM → Prop} (hC : Cx E Γ RX12 cX12_shares 8 d) (hd : 107 ≤ d) (x1 : Int32) (x3 : Int32) (hx : ∀ (M_160 : zM), K1 M_160 → G E Γ 8 160 [(0, .ref 36), (1, .int x1), (3, .int x3)] [] M_160) :
    ∀ (n : Nat) (x4 : Int32) (M : zM), wpO (fX12_shares_L132 x1 x3 n x4 M) K1 → G E Γ 8 132 [(0, .ref 36), (1, .int x1), (3, .int x3), (4, .int x4)] [] M := by
  intro n
  induction n with
  | zero =>
    intro x4 M h
    exact (wpO_0 h).elim
  | succ n ih =>
    intro x4 M h
    rw [fX12_shares_L132.eq_2] at h
    refine g_iload (i := 4) (x := x4) hC (dX12_shares_132) rfl ?_
    refine g_aload_n (i := 0) (x := 36) hC (dX12_shares_134) rfl rfl ?_
    refine g_callVi ([]) hC wvX12_233 (dX12_shares_135) rfl rfl (by omega) (Nat.le_of_ble_eq_true rfl) (cX12_all_ok (by omega) M (K := fun r => r = fX12_all M) rfl) (fun r N q => ?_)
    obtain ⟨rfl, rfl⟩ := q
    refine g_icmp_gt (tgt := 160) hC (dX12_shares_138) (by decide) (fun c138 => ?_) (fun c138 => ?_)
    · have h := wpO_t c138 h
      refine g_sub (lv' := [(0, .ref 36), (1, .int x1), (3, .int x3)]) [0, 1, 2] rfl ?_
      exact hx _ (wpO_s h)
    · have h := wpO_f c138 h
      refine g_aload_n (i := 0) (x := 36) hC (dX12_shares_141) rfl rfl ?_
      refine g_getR (r := 51) hC flX12_61 (dX12_shares_142) rfl rfl rfl ?_
      refine g_iload_n (i := 1) (x := x1) hC (dX12_shares_145) rfl rfl ?_
      refine g_bipush (v := 8) hC (dX12_shares_146) kb_8 ?_
      refine g_ishl hC (dX12_shares_148) ?_
      refine g_iload (i := 4) (x := x4) hC (dX12_shares_149) rfl ?_
      refine g_ior hC (dX12_shares_151) ?_
      refine g_iconst (v := 0) hC (dX12_shares_152) kc_0 ?_
      obtain ⟨q14, h⟩ := wpO_g h
      refine g_iastore (n := 1792) hC (dX12_shares_153) rfl q14 ?_
      refine g_nmM (fun M153 e_M153 => ?_)
      have h := wpO_n e_M153 h
      refine g_iinc (x := x4) (v := (x4 + 1)) (lv2 := [(4, .int (x4 + 1)), (0, .ref 36), (1, .int x1), (3, .int x3)]) hC (dX12_shares_154) rfl rfl (by decide) rfl ?_
      refine g_goto (tgt := 132) hC (dX12_shares_157) (by decide) ?_
      refine g_sub (lv' := [(0, .ref 36), (1, .int x1), (3, .int x3), (4, .int (x4 + 1))]) [1, 2, 3, 0] rfl ?_
      exact ih _ _ h
set_option maxHeartbeats 4000000 in
theorem lX12_shares_202 {E : zE} {Γ : zT} {d : Nat} {K1 : (Int32 × zM) → Prop} (hC : Cx E Γ RX12 cX12_shares 8 d) (hd : 107 ≤ d) (x1 : Int32) (x3 : Int32) (x4 : Int32) (x5 : Int32) (hx : ∀ (x6_248 : Int32) (M_248 : zM), K1 (x6_248, M_248) → G E Γ 8 248 [(0, .ref 36), (1, .int x1), (3, .int x3), (4, .int x4), (5, .int x5), (6, .int x6_248)] [] M_248) :
    ∀ (n : Nat) (x6 : Int32) (x7 : Int32) (M : zM), wpO (fX12_shares_L202 x1 x3 x4 x5 n x6 x7 M) K1 → G E Γ 8 202 [(0, .ref 36), (1, .int x1), (3, .int x3), (4, .int x4), (5, .int x5), (6, .int x6), (7, .int x7)] [] M := by
  intro n
  induction n with
  | zero =>
    intro x6 x7 M h
    exact (wpO_0 h).elim
  | succ n ih =>
    intro x6 x7 M h
    rw [fX12_shares_L202.eq_2] at h
    refine g_iload (i := 7) (x := x7) hC (dX12_shares_202) rfl ?_
    refine g_aload_n (i := 0) (x := 36) hC (dX12_shares_204) rfl rfl ?_
    refine g_getI hC flX12_92 (dX12_shares_205) rfl rfl ?_
    refine g_icmp_ge (tgt := 248) hC (dX12_shares_208) (by decide) (fun c208 => ?_) (fun c208 => ?_)
    · have h := wpO_t c208 h
      refine g_sub (lv' := [(0, .ref 36), (1, .int x1), (3, .int x3), (4, .int x4), (5, .int x5), (6, .int x6)]) [0, 1, 2, 3, 4, 5] rfl ?_
      exact hx _ _ (wpO_s h)
    · have h := wpO_f c208 h
      refine g_iload_n (i := 3) (x := x3) hC (dX12_shares_211) rfl rfl ?_
      refine g_iload (i := 5) (x := x5) hC (dX12_shares_212) rfl ?_
      refine g_iconst (v := (-1)) hC (dX12_shares_214) kc_m1 ?_
      refine g_ixor hC (dX12_shares_215) ?_
      refine g_iand hC (dX12_shares_216) ?_
      refine g_iload (i := 7) (x := x7) hC (dX12_shares_217) rfl ?_
      refine g_callSi ([.int (x3 &&& (x5 ^^^ (-1))), .int x7]) hC wsX12_216 (dX12_shares_219) rfl (by omega) (Nat.le_of_ble_eq_true rfl) (cX12_has_ok (by omega) (x3 &&& (x5 ^^^ (-1))) x7 M (K := fun r => r = fX12_has (x3 &&& (x5 ^^^ (-1))) x7) rfl) (fun r N q => ?_)
      obtain ⟨rfl, rfl⟩ := q
      refine wpO_bJ h (fun KJ18 hKJ18 h => ?_)
      have hJ18 : ∀ (x6_242 : Int32) (M_242 : zM), KJ18 (x6_242, M_242) → G E Γ 8 242 [(0, .ref 36), (1, .int x1), (3, .int x3), (4, .int x4), (5, .int x5), (6, .int x6_242), (7, .int x7)] [] M_242 := by
        intro x6_242 M_242 h
        have h := hKJ18 _ h
        have h := wpO_p h
        refine g_iinc (x := x7) (v := (x7 + 1)) (lv2 := [(7, .int (x7 + 1)), (0, .ref 36), (1, .int x1), (3, .int x3), (4, .int x4), (5, .int x5), (6, .int x6_242)]) hC (dX12_shares_242) rfl rfl (by decide) rfl ?_
        refine g_goto (tgt := 202) hC (dX12_shares_245) (by decide) ?_
        refine g_sub (lv' := [(0, .ref 36), (1, .int x1), (3, .int x3), (4, .int x4), (5, .int x5), (6, .int x6_242), (7, .int (x7 + 1))]) [1, 2, 3, 4, 5, 6, 0] rfl ?_
        exact ih _ _ _ h
      refine g_if_eq (tgt := 242) hC (dX12_shares_222) (by decide) (fun c222 => ?_) (fun c222 => ?_)
      · have h := wpO_t c222 h
        exact hJ18 _ _ (wpO_s h)
      · have h := wpO_f c222 h
        refine g_iload (i := 6) (x := x6) hC (dX12_shares_225) rfl ?_
        refine g_aload_n (i := 0) (x := 36) hC (dX12_shares_227) rfl rfl ?_
        refine g_iload (i := 4) (x := x4) hC (dX12_shares_228) rfl ?_
        refine g_iload (i := 5) (x := x5) hC (dX12_shares_230) rfl ?_
        refine g_iload (i := 7) (x := x7) hC (dX12_shares_232) rfl ?_
        have h := wpO_b h
        refine g_callVi ([.int x4, .int x5, .int x7]) hC wvX12_299 (dX12_shares_234) rfl rfl (by omega) (Nat.le_of_ble_eq_true rfl) (cX12_givenBy_ok (by omega) x4 x5 x7 M h) (fun r19 M234 h => ?_)
        have h := wpO_p h
        refine g_max hC wmX12_206 (dX12_shares_237) (by omega) (Nat.le_of_ble_eq_true rfl) ?_
        refine g_nmi (fun x6_240 e_x6_240 => ?_)
        have h := wpO_n e_x6_240 h
        refine g_istore (i := 6) (lv2 := [(6, .int x6_240), (0, .ref 36), (1, .int x1), (3, .int x3), (4, .int x4), (5, .int x5), (7, .int x7)]) hC (dX12_shares_240) (by decide) rfl ?_
        refine g_sub (lv' := [(0, .ref 36), (1, .int x1), (3, .int x3), (4, .int x4), (5, .int x5), (6, .int x6_240), (7, .int x7)]) [1, 2, 3, 4, 5, 0, 6] rfl ?_
        exact hJ18 _ _ (wpO_s h)
set_option maxHeartbeats 4000000 in
theorem lX12_shares_173 {E : zE} {Γ : zT} {d : Nat} {K1 : zM → Prop} (hC : Cx E Γ RX12 cX12_shares 8 d) (hd : 107 ≤ d) (x1 : Int32) (x3 : Int32) (x4 : Int32) (hx : ∀ (M_269 : zM), K1 M_269 → G E Γ 8 269 [(0, .ref 36), (1, .int x1), (3, .int x3), (4, .int x4)] [] M_269) :
    ∀ (n : Nat) (x5 : Int32) (M : zM), wpO (fX12_shares_L173 x1 x3 x4 n x5 M) K1 → G E Γ 8 173 [(0, .ref 36), (1, .int x1), (3, .int x3), (4, .int x4), (5, .int x5)] [] M := by
  intro n
  induction n with
  | zero =>
    intro x5 M h
    exact (wpO_0 h).elim
  | succ n ih =>
    intro x5 M h
    rw [fX12_shares_L173.eq_2] at h
    refine g_iload (i := 5) (x := x5) hC (dX12_shares_173) rfl ?_
    refine g_aload_n (i := 0) (x := 36) hC (dX12_shares_175) rfl rfl ?_
    refine g_callVi ([]) hC wvX12_233 (dX12_shares_176) rfl rfl (by omega) (Nat.le_of_ble_eq_true rfl) (cX12_all_ok (by omega) M (K := fun r => r = fX12_all M) rfl) (fun r N q => ?_)
    obtain ⟨rfl, rfl⟩ := q
    refine g_icmp_gt (tgt := 269) hC (dX12_shares_179) (by decide) (fun c179 => ?_) (fun c179 => ?_)
    · have h := wpO_t c179 h
      refine g_sub (lv' := [(0, .ref 36), (1, .int x1), (3, .int x3), (4, .int x4)]) [0, 1, 2, 3] rfl ?_
      exact hx _ (wpO_s h)
    · have h := wpO_f c179 h
      refine g_aload_n (i := 0) (x := 36) hC (dX12_shares_182) rfl rfl ?_
      refine g_getR (r := 51) hC flX12_61 (dX12_shares_183) rfl rfl rfl ?_
      refine g_iload (i := 4) (x := x4) hC (dX12_shares_186) rfl ?_
      refine g_iconst (v := 1) hC (dX12_shares_188) kc_1 ?_
      refine g_iadd hC (dX12_shares_189) ?_
      refine g_bipush (v := 8) hC (dX12_shares_190) kb_8 ?_
      refine g_ishl hC (dX12_shares_192) ?_
      refine g_iload (i := 5) (x := x5) hC (dX12_shares_193) rfl ?_
      refine g_ior hC (dX12_shares_195) ?_
      obtain ⟨q16, h⟩ := wpO_g h
      refine g_iaload (n := 1792) hC (dX12_shares_196) rfl q16 ?_
      refine g_nmi (fun x6_197 e_x6_197 => ?_)
      have h := wpO_n e_x6_197 h
      refine g_istore (i := 6) (lv2 := [(6, .int x6_197), (0, .ref 36), (1, .int x1), (3, .int x3), (4, .int x4), (5, .int x5)]) hC (dX12_shares_197) (by decide) rfl ?_
      refine g_iconst (v := 0) hC (dX12_shares_199) kc_0 ?_
      refine g_istore (i := 7) (lv2 := [(7, .int 0), (6, .int x6_197), (0, .ref 36), (1, .int x1), (3, .int x3), (4, .int x4), (5, .int x5)]) hC (dX12_shares_200) (by decide) rfl ?_
      refine g_sub (lv' := [(0, .ref 36), (1, .int x1), (3, .int x3), (4, .int x4), (5, .int x5), (6, .int x6_197), (7, .int 0)]) [2, 3, 4, 5, 6, 1, 0] rfl ?_
      refine wpO_bJ h (fun KL202 hKL202 h => ?_)
      refine lX12_shares_202 (K1 := KL202) hC (by omega) x1 x3 x4 x5 (fun x6_248 M_248 h => ?_) _ _ _ _ h
      have h := hKL202 _ h
      have h := wpO_p h
      refine g_aload_n (i := 0) (x := 36) hC (dX12_shares_248) rfl rfl ?_
      refine g_getR (r := 51) hC flX12_61 (dX12_shares_249) rfl rfl rfl ?_
      refine g_iload (i := 4) (x := x4) hC (dX12_shares_252) rfl ?_
      refine g_bipush (v := 8) hC (dX12_shares_254) kb_8 ?_
      refine g_ishl hC (dX12_shares_256) ?_
      refine g_iload (i := 5) (x := x5) hC (dX12_shares_257) rfl ?_
      refine g_ior hC (dX12_shares_259) ?_
      refine g_iload (i := 6) (x := x6_248) hC (dX12_shares_260) rfl ?_
      obtain ⟨q20, h⟩ := wpO_g h
      refine g_iastore (n := 1792) hC (dX12_shares_262) rfl q20 ?_
      refine g_nmM (fun M262 e_M262 => ?_)
      have h := wpO_n e_M262 h
      refine g_iinc (x := x5) (v := (x5 + 1)) (lv2 := [(5, .int (x5 + 1)), (0, .ref 36), (1, .int x1), (3, .int x3), (4, .int x4), (6, .int x6_248)]) hC (dX12_shares_263) rfl rfl (by decide) rfl ?_
      refine g_goto (tgt := 173) hC (dX12_shares_266) (by decide) ?_
      refine g_sub (lv' := [(0, .ref 36), (1, .int x1), (3, .int x3), (4, .int x4), (5, .int (x5 + 1))]) [1, 2, 3, 4, 0] rfl ?_
      exact ih _ _ h
set_option maxHeartbeats 4000000 in
theorem lX12_shares_165 {E : zE} {Γ : zT} {d : Nat} {K1 : zM → Prop} (hC : Cx E Γ RX12 cX12_shares 8 d) (hd : 107 ≤ d) (x1 : Int32) (x3 : Int32) (hx : ∀ (M_275 : zM), K1 M_275 → G E Γ 8 275 [(0, .ref 36), (1, .int x1), (3, .int x3)] [] M_275) :
    ∀ (n : Nat) (x4 : Int32) (M : zM), wpO (fX12_shares_L165 x1 x3 n x4 M) K1 → G E Γ 8 165 [(0, .ref 36), (1, .int x1), (3, .int x3), (4, .int x4)] [] M := by
  intro n
  induction n with
  | zero =>
    intro x4 M h
    exact (wpO_0 h).elim
  | succ n ih =>
    intro x4 M h
    rw [fX12_shares_L165.eq_2] at h
    refine g_iload (i := 4) (x := x4) hC (dX12_shares_165) rfl ?_
    refine g_if_lt (tgt := 275) hC (dX12_shares_167) (by decide) (fun c167 => ?_) (fun c167 => ?_)
    · have h := wpO_t c167 h
      refine g_sub (lv' := [(0, .ref 36), (1, .int x1), (3, .int x3)]) [0, 1, 2] rfl ?_
      exact hx _ (wpO_s h)
    · have h := wpO_f c167 h
      refine g_iconst (v := 0) hC (dX12_shares_170) kc_0 ?_
      refine g_istore (i := 5) (lv2 := [(5, .int 0), (0, .ref 36), (1, .int x1), (3, .int x3), (4, .int x4)]) hC (dX12_shares_171) (by decide) rfl ?_
      refine g_sub (lv' := [(0, .ref 36), (1, .int x1), (3, .int x3), (4, .int x4), (5, .int 0)]) [1, 2, 3, 4, 0] rfl ?_
      refine wpO_bJ h (fun KL173 hKL173 h => ?_)
      refine lX12_shares_173 (K1 := KL173) hC (by omega) x1 x3 x4 (fun M_269 h => ?_) _ _ _ h
      have h := hKL173 _ h
      refine g_iinc (x := x4) (v := (x4 + (-1))) (lv2 := [(4, .int (x4 + (-1))), (0, .ref 36), (1, .int x1), (3, .int x3)]) hC (dX12_shares_269) rfl rfl (by decide) rfl ?_
      refine g_goto (tgt := 165) hC (dX12_shares_272) (by decide) ?_
      refine g_sub (lv' := [(0, .ref 36), (1, .int x1), (3, .int x3), (4, .int (x4 + (-1)))]) [1, 2, 3, 0] rfl ?_
      exact ih _ _ h
set_option maxHeartbeats 4000000 in
theorem lX12_shares_333 {E : zE} {Γ : zT} {d : Nat} {K1 : (Int32 × zM) → Prop} (hC : Cx E Γ RX12 cX12_shares 8 d) (hd : 107 ≤ d) (x1 : Int32) (x3 : Int32) (x4 : Int32) (x5 : Int32) (x6 : Int32) (hx : ∀ (x7_368 : Int32) (M_368 : zM), K1 (x7_368, M_368) → G E Γ 8 368 [(0, .ref 36), (1, .int x1), (3, .int x3), (4, .int x4), (5, .int x5), (7, .int x7_368)] [] M_368) :
    ∀ (n : Nat) (x7 : Int32) (M : zM), wpO (fX12_shares_L333 x1 x3 x4 x5 x6 n x7 M) K1 → G E Γ 8 333 [(0, .ref 36), (1, .int x1), (3, .int x3), (4, .int x4), (5, .int x5), (6, .int x6), (7, .int x7)] [] M := by
  intro n
  induction n with
  | zero =>
    intro x7 M h
    exact (wpO_0 h).elim
  | succ n ih =>
    intro x7 M h
    rw [fX12_shares_L333.eq_2] at h
    refine g_iload_n (i := 3) (x := x3) hC (dX12_shares_333) rfl rfl ?_
    refine g_iload (i := 4) (x := x4) hC (dX12_shares_334) rfl ?_
    refine g_iconst (v := (-1)) hC (dX12_shares_336) kc_m1 ?_
    refine g_ixor hC (dX12_shares_337) ?_
    refine g_iand hC (dX12_shares_338) ?_
    refine g_iload (i := 7) (x := x7) hC (dX12_shares_339) rfl ?_
    refine g_callSi ([.int (x3 &&& (x4 ^^^ (-1))), .int x7]) hC wsX12_216 (dX12_shares_341) rfl (by omega) (Nat.le_of_ble_eq_true rfl) (cX12_has_ok (by omega) (x3 &&& (x4 ^^^ (-1))) x7 M (K := fun r => r = fX12_has (x3 &&& (x4 ^^^ (-1))) x7) rfl) (fun r N q => ?_)
    obtain ⟨rfl, rfl⟩ := q
    refine wpO_j h (fun J25 hkJ25 h => ?_)
    have hJ25 : ∀ (M_362 : zM), wpO (J25 M_362) K1 → G E Γ 8 362 [(0, .ref 36), (1, .int x1), (3, .int x3), (4, .int x4), (5, .int x5), (6, .int x6), (7, .int x7)] [] M_362 := by
      intro M_362 h
      have h := hkJ25 _ h
      refine g_iinc (x := x7) (v := (x7 + 1)) (lv2 := [(7, .int (x7 + 1)), (0, .ref 36), (1, .int x1), (3, .int x3), (4, .int x4), (5, .int x5), (6, .int x6)]) hC (dX12_shares_362) rfl rfl (by decide) rfl ?_
      refine g_goto (tgt := 333) hC (dX12_shares_365) (by decide) ?_
      refine g_sub (lv' := [(0, .ref 36), (1, .int x1), (3, .int x3), (4, .int x4), (5, .int x5), (6, .int x6), (7, .int (x7 + 1))]) [1, 2, 3, 4, 5, 6, 0] rfl ?_
      exact ih _ _ h
    refine g_if_eq (tgt := 362) hC (dX12_shares_344) (by decide) (fun c344 => ?_) (fun c344 => ?_)
    · have h := wpO_t c344 h
      exact hJ25 _ h
    · have h := wpO_f c344 h
      refine g_aload_n (i := 0) (x := 36) hC (dX12_shares_347) rfl rfl ?_
      refine g_iload (i := 5) (x := x5) hC (dX12_shares_348) rfl ?_
      refine g_iload (i := 4) (x := x4) hC (dX12_shares_350) rfl ?_
      refine g_iload (i := 7) (x := x7) hC (dX12_shares_352) rfl ?_
      have h := wpO_b h
      refine g_callVi ([.int x5, .int x4, .int x7]) hC wvX12_299 (dX12_shares_354) rfl rfl (by omega) (Nat.le_of_ble_eq_true rfl) (cX12_givenBy_ok (by omega) x5 x4 x7 M h) (fun r26 M354 h => ?_)
      have h := wpO_p h
      refine g_iload (i := 6) (x := x6) hC (dX12_shares_357) rfl ?_
      refine g_icmp_eq (tgt := 368) hC (dX12_shares_359) (by decide) (fun c359 => ?_) (fun c359 => ?_)
      · have h := wpO_t c359 h
        refine g_sub (lv' := [(0, .ref 36), (1, .int x1), (3, .int x3), (4, .int x4), (5, .int x5), (7, .int x7)]) [0, 1, 2, 3, 4, 6] rfl ?_
        exact hx _ _ (wpO_s h)
      · have h := wpO_f c359 h
        exact hJ25 _ h
set_option maxHeartbeats 4000000 in
theorem lX12_shares_286 {E : zE} {Γ : zT} {d : Nat} {K1 : zM → Prop} (hC : Cx E Γ RX12 cX12_shares 8 d) (hd : 107 ≤ d) (x1 : Int32) (x3 : Int32) (hx : ∀ (M_390 : zM), K1 M_390 → G E Γ 8 390 [(0, .ref 36)] [] M_390) :
    ∀ (n : Nat) (x4 : Int32) (x5 : Int32) (M : zM), wpO (fX12_shares_L286 x1 x3 n x4 x5 M) K1 → G E Γ 8 286 [(0, .ref 36), (1, .int x1), (3, .int x3), (4, .int x4), (5, .int x5)] [] M := by
  intro n
  induction n with
  | zero =>
    intro x4 x5 M h
    exact (wpO_0 h).elim
  | succ n ih =>
    intro x4 x5 M h
    rw [fX12_shares_L286.eq_2] at h
    refine g_iload (i := 5) (x := x5) hC (dX12_shares_286) rfl ?_
    refine g_iload_n (i := 1) (x := x1) hC (dX12_shares_288) rfl rfl ?_
    refine g_icmp_ge (tgt := 390) hC (dX12_shares_289) (by decide) (fun c289 => ?_) (fun c289 => ?_)
    · have h := wpO_t c289 h
      refine g_sub (lv' := [(0, .ref 36)]) [0] rfl ?_
      exact hx _ (wpO_s h)
    · have h := wpO_f c289 h
      refine g_aload_n (i := 0) (x := 36) hC (dX12_shares_292) rfl rfl ?_
      refine g_getR (r := 51) hC flX12_61 (dX12_shares_293) rfl rfl rfl ?_
      refine g_iload (i := 5) (x := x5) hC (dX12_shares_296) rfl ?_
      refine g_bipush (v := 8) hC (dX12_shares_298) kb_8 ?_
      refine g_ishl hC (dX12_shares_300) ?_
      refine g_iload (i := 4) (x := x4) hC (dX12_shares_301) rfl ?_
      refine g_ior hC (dX12_shares_303) ?_
      obtain ⟨q21, h⟩ := wpO_g h
      refine g_iaload (n := 1792) hC (dX12_shares_304) rfl q21 ?_
      refine g_nmi (fun x6_305 e_x6_305 => ?_)
      have h := wpO_n e_x6_305 h
      refine g_istore (i := 6) (lv2 := [(6, .int x6_305), (0, .ref 36), (1, .int x1), (3, .int x3), (4, .int x4), (5, .int x5)]) hC (dX12_shares_305) (by decide) rfl ?_
      refine g_iconst (v := (-1)) hC (dX12_shares_307) kc_m1 ?_
      refine g_istore (i := 7) (lv2 := [(7, .int (-1)), (6, .int x6_305), (0, .ref 36), (1, .int x1), (3, .int x3), (4, .int x4), (5, .int x5)]) hC (dX12_shares_308) (by decide) rfl ?_
      refine g_aload_n (i := 0) (x := 36) hC (dX12_shares_310) rfl rfl ?_
      refine g_getR (r := 51) hC flX12_61 (dX12_shares_311) rfl rfl rfl ?_
      refine g_iload (i := 5) (x := x5) hC (dX12_shares_314) rfl ?_
      refine g_iconst (v := 1) hC (dX12_shares_316) kc_1 ?_
      refine g_iadd hC (dX12_shares_317) ?_
      refine g_bipush (v := 8) hC (dX12_shares_318) kb_8 ?_
      refine g_ishl hC (dX12_shares_320) ?_
      refine g_iload (i := 4) (x := x4) hC (dX12_shares_321) rfl ?_
      refine g_ior hC (dX12_shares_323) ?_
      obtain ⟨q22, h⟩ := wpO_g h
      refine g_iaload (n := 1792) hC (dX12_shares_324) rfl q22 ?_
      refine g_iload (i := 6) (x := x6_305) hC (dX12_shares_325) rfl ?_
      refine wpO_bJ h (fun KJ23 hKJ23 h => ?_)
      have hJ23 : ∀ (x4_377 : Int32) (x7_377 : Int32) (M_377 : zM), KJ23 (x4_377, x7_377, M_377) → G E Γ 8 377 [(0, .ref 36), (1, .int x1), (3, .int x3), (4, .int x4_377), (5, .int x5), (7, .int x7_377)] [] M_377 := by
        intro x4_377 x7_377 M_377 h
        have h := hKJ23 _ h
        have h := wpO_p h
        have h := wpO_p h
        refine g_aload_n (i := 0) (x := 36) hC (dX12_shares_377) rfl rfl ?_
        refine g_iload (i := 7) (x := x7_377) hC (dX12_shares_378) rfl ?_
        refine g_i2l hC (dX12_shares_380) ?_
        have h := wpO_b h
        refine g_callVv ([.long x7_377.toInt64]) hC wvX12_280 (dX12_shares_381) rfl rfl (by omega) (Nat.le_of_ble_eq_true rfl) (cX12_tell_ok (by omega) x7_377.toInt64 M_377 h) (fun M381 h => ?_)
        refine g_iinc (x := x5) (v := (x5 + 1)) (lv2 := [(5, .int (x5 + 1)), (0, .ref 36), (1, .int x1), (3, .int x3), (4, .int x4_377), (7, .int x7_377)]) hC (dX12_shares_384) rfl rfl (by decide) rfl ?_
        refine g_goto (tgt := 286) hC (dX12_shares_387) (by decide) ?_
        refine g_sub (lv' := [(0, .ref 36), (1, .int x1), (3, .int x3), (4, .int x4_377), (5, .int (x5 + 1))]) [1, 2, 3, 4, 0] rfl ?_
        exact ih _ _ _ h
      refine g_icmp_eq (tgt := 377) hC (dX12_shares_327) (by decide) (fun c327 => ?_) (fun c327 => ?_)
      · have h := wpO_t c327 h
        refine g_sub (lv' := [(0, .ref 36), (1, .int x1), (3, .int x3), (4, .int x4), (5, .int x5), (7, .int (-1))]) [2, 3, 4, 5, 6, 0] rfl ?_
        exact hJ23 _ _ _ (wpO_s h)
      · have h := wpO_f c327 h
        refine g_iconst (v := 0) hC (dX12_shares_330) kc_0 ?_
        refine g_istore (i := 7) (lv2 := [(7, .int 0), (6, .int x6_305), (0, .ref 36), (1, .int x1), (3, .int x3), (4, .int x4), (5, .int x5)]) hC (dX12_shares_331) (by decide) rfl ?_
        refine g_sub (lv' := [(0, .ref 36), (1, .int x1), (3, .int x3), (4, .int x4), (5, .int x5), (6, .int x6_305), (7, .int 0)]) [2, 3, 4, 5, 6, 1, 0] rfl ?_
        refine wpO_bJ h (fun KL333 hKL333 h => ?_)
        refine lX12_shares_333 (K1 := KL333) hC (by omega) x1 x3 x4 x5 x6_305 (fun x7_368 M_368 h => ?_) _ _ _ h
        have h := hKL333 _ h
        have h := wpO_p h
        refine g_iload (i := 4) (x := x4) hC (dX12_shares_368) rfl ?_
        refine g_iconst (v := 1) hC (dX12_shares_370) kc_1 ?_
        refine g_iload (i := 7) (x := x7_368) hC (dX12_shares_371) rfl ?_
        refine g_ishl hC (dX12_shares_373) ?_
        refine g_ior hC (dX12_shares_374) ?_
        refine g_nmi (fun x4_375 e_x4_375 => ?_)
        have h := wpO_n e_x4_375 h
        refine g_istore (i := 4) (lv2 := [(4, .int x4_375), (0, .ref 36), (1, .int x1), (3, .int x3), (5, .int x5), (7, .int x7_368)]) hC (dX12_shares_375) (by decide) rfl ?_
        refine g_sub (lv' := [(0, .ref 36), (1, .int x1), (3, .int x3), (4, .int x4_375), (5, .int x5), (7, .int x7_368)]) [1, 2, 3, 0, 4, 5] rfl ?_
        exact hJ23 _ _ _ (wpO_s h)
set_option maxHeartbeats 4000000 in
theorem cX12_shares_ok {E : zE} {d : Nat} (hd : 107 ≤ d)  (M : zM) {K : (Int32 × zM) → Prop} (h : wpO (fX12_shares  M) K) : CMi E d yX12_shares cX12_shares 8 (some .int) [.ref 36] M (fun r N => K (r, N)) := by
  refine CMi.of (by decide) (Nat.le_of_ble_eq_true rfl) (fun Γ hC hr => ?_)
  have hC : Cx E Γ RX12 cX12_shares 8 d := hC
  show G E Γ 8 0 [(0, .ref 36)] [] M
  unfold fX12_shares at h
  refine g_aload_n (i := 0) (x := 36) hC (dX12_shares_0) rfl rfl ?_
  refine g_iconst (v := 0) hC (dX12_shares_1) kc_0 ?_
  refine g_putI hC fpX12_86 (dX12_shares_2) rfl rfl rfl rfl ?_
  refine g_nmM (fun M2 e_M2 => ?_)
  have h := wpO_n e_M2 h
  refine g_aload_n (i := 0) (x := 36) hC (dX12_shares_5) rfl rfl ?_
  refine g_bipush (v := 80) hC (dX12_shares_6) kb_80 ?_
  refine g_callVv ([.int 80]) hC wvX12_150 (dX12_shares_8) rfl rfl (by omega) (Nat.le_of_ble_eq_true rfl) (cX12_beginText_ok (by omega) 80 M2 (K := fun r => r = fX12_beginText 80 M2) rfl) (fun N q => ?_)
  subst q
  refine g_nmM (fun M8 e_M8 => ?_)
  have h := wpO_n e_M8 h
  refine g_iconst (v := 0) hC (dX12_shares_11) kc_0 ?_
  refine g_istore_n (i := 1) (lv2 := [(1, .int 0), (0, .ref 36)]) hC (dX12_shares_12) rfl (by decide) rfl ?_
  refine g_aload_n (i := 0) (x := 36) hC (dX12_shares_13) rfl rfl ?_
  refine g_getI hC flX12_108 (dX12_shares_14) rfl rfl ?_
  obtain ⟨s0_25, e_s0_25, h⟩ := wpO_l h
  have hJ2 : G E Γ 8 25 [(0, .ref 36), (1, .int 0)] [.int s0_25] M8 := by
    refine g_istore_n (i := 2) (lv2 := [(2, .int s0_25), (0, .ref 36), (1, .int 0)]) hC (dX12_shares_25) rfl (by decide) rfl ?_
    refine g_sub (lv' := [(0, .ref 36), (1, .int 0), (2, .int s0_25)]) [1, 2, 0] rfl ?_
    refine wpO_bJ h (fun KL26 hKL26 h => ?_)
    refine lX12_shares_26 (K1 := KL26) hC (by omega)  (fun x1_105 M_105 h => ?_) _ _ _ _ h
    have h := hKL26 _ h
    have h := wpO_p h
    refine g_aload_n (i := 0) (x := 36) hC (dX12_shares_105) rfl rfl ?_
    refine g_callVi ([]) hC wvX12_157 (dX12_shares_106) rfl rfl (by omega) (Nat.le_of_ble_eq_true rfl) (cX12_wasRight_ok (by omega) M_105 (K := fun r => r = fX12_wasRight M_105) rfl) (fun r N q => ?_)
    obtain ⟨rfl, rfl⟩ : r = (fX12_wasRight M_105).1 ∧ N = (fX12_wasRight M_105).2 := ⟨congrArg Prod.fst q, congrArg Prod.snd q⟩
    refine g_nmM (fun M106 e_M106 => ?_)
    have h := wpO_n e_M106 h
    refine g_if_ne (tgt := 119) hC (dX12_shares_109) (by decide) (fun c109 => ?_) (fun c109 => ?_)
    · have h := wpO_f c109 h
      refine g_aload_n (i := 0) (x := 36) hC (dX12_shares_119) rfl rfl ?_
      refine g_aload_n (i := 0) (x := 36) hC (dX12_shares_120) rfl rfl ?_
      refine g_getR (r := 37) hC flX12_9 (dX12_shares_121) rfl rfl rfl ?_
      refine g_iconst (v := 2) hC (dX12_shares_124) kc_2 ?_
      have h := wpO_b h
      refine g_callVi ([.ref 37, .int 2]) hC wvX12_209 (dX12_shares_125) rfl rfl (by omega) (Nat.le_of_ble_eq_true rfl) (cX12_those_ok (by omega) 37 2 M106 h) (fun r12 N q => ?_)
      obtain ⟨rfl, h⟩ := q
      refine g_istore_n (i := 3) (lv2 := [(3, .int r12), (0, .ref 36), (1, .int x1_105)]) hC (dX12_shares_128) rfl (by decide) rfl ?_
      refine g_iconst (v := 0) hC (dX12_shares_129) kc_0 ?_
      refine g_istore (i := 4) (lv2 := [(4, .int 0), (3, .int r12), (0, .ref 36), (1, .int x1_105)]) hC (dX12_shares_130) (by decide) rfl ?_
      refine g_sub (lv' := [(0, .ref 36), (1, .int x1_105), (3, .int r12), (4, .int 0)]) [2, 3, 1, 0] rfl ?_
      refine wpO_bJ h (fun KL132 hKL132 h => ?_)
      refine lX12_shares_132 (K1 := KL132) hC (by omega) x1_105 r12 (fun M_160 h => ?_) _ _ _ h
      have h := hKL132 _ h
      refine g_iload_n (i := 1) (x := x1_105) hC (dX12_shares_160) rfl rfl ?_
      refine g_iconst (v := 1) hC (dX12_shares_161) kc_1 ?_
      refine g_isub hC (dX12_shares_162) ?_
      refine g_nmi (fun x4_163 e_x4_163 => ?_)
      have h := wpO_n e_x4_163 h
      refine g_istore (i := 4) (lv2 := [(4, .int x4_163), (0, .ref 36), (1, .int x1_105), (3, .int r12)]) hC (dX12_shares_163) (by decide) rfl ?_
      refine g_sub (lv' := [(0, .ref 36), (1, .int x1_105), (3, .int r12), (4, .int x4_163)]) [1, 2, 3, 0] rfl ?_
      refine wpO_bJ h (fun KL165 hKL165 h => ?_)
      refine lX12_shares_165 (K1 := KL165) hC (by omega) x1_105 r12 (fun M_275 h => ?_) _ _ _ h
      have h := hKL165 _ h
      refine g_aload_n (i := 0) (x := 36) hC (dX12_shares_275) rfl rfl ?_
      refine g_iconst (v := 0) hC (dX12_shares_276) kc_0 ?_
      refine g_putI hC fpX12_89 (dX12_shares_277) rfl rfl rfl rfl ?_
      refine g_nmM (fun M277 e_M277 => ?_)
      have h := wpO_n e_M277 h
      refine g_iconst (v := 0) hC (dX12_shares_280) kc_0 ?_
      refine g_istore (i := 4) (lv2 := [(4, .int 0), (0, .ref 36), (1, .int x1_105), (3, .int r12)]) hC (dX12_shares_281) (by decide) rfl ?_
      refine g_iconst (v := 0) hC (dX12_shares_283) kc_0 ?_
      refine g_istore (i := 5) (lv2 := [(5, .int 0), (4, .int 0), (0, .ref 36), (1, .int x1_105), (3, .int r12)]) hC (dX12_shares_284) (by decide) rfl ?_
      refine g_sub (lv' := [(0, .ref 36), (1, .int x1_105), (3, .int r12), (4, .int 0), (5, .int 0)]) [2, 3, 4, 1, 0] rfl ?_
      refine wpO_bJ h (fun KL286 hKL286 h => ?_)
      refine lX12_shares_286 (K1 := KL286) hC (by omega) x1_105 r12 (fun M_390 h => ?_) _ _ _ _ h
      have h := hKL286 _ h
      refine g_aload_n (i := 0) (x := 36) hC (dX12_shares_390) rfl rfl ?_
      refine g_getR (r := 51) hC flX12_61 (dX12_shares_391) rfl rfl rfl ?_
      refine g_iconst (v := 0) hC (dX12_shares_394) kc_0 ?_
      refine g_iaload (n := 1792) hC (dX12_shares_395) rfl (by decide) ?_
      refine g_ireturn hC hr (dX12_shares_396) ?_
      exact wpO_s h
    · have h := wpO_t c109 h
      refine g_iconst (v := (-1)) hC (dX12_shares_112) kc_m1 ?_
      refine g_aload_n (i := 0) (x := 36) hC (dX12_shares_113) rfl rfl ?_
      refine g_getI hC flX12_117 (dX12_shares_114) rfl rfl ?_
      refine g_isub hC (dX12_shares_117) ?_
      refine g_ireturn hC hr (dX12_shares_118) ?_
      exact wpO_s h
  refine g_if_le (tgt := 24) hC (dX12_shares_17) (by decide) (fun c17 => ?_) (fun c17 => ?_)
  · rw [if_pos c17] at e_s0_25
    refine g_iconst (v := 0) hC (dX12_shares_24) kc_0 ?_
    refine g_sub (lv' := [(0, .ref 36), (1, .int 0)]) [1, 0] rfl ?_
    subst e_s0_25
    exact hJ2
  · rw [if_neg c17] at e_s0_25
    refine g_iconst (v := 1) hC (dX12_shares_20) kc_1 ?_
    refine g_goto (tgt := 25) hC (dX12_shares_21) (by decide) ?_
    refine g_sub (lv' := [(0, .ref 36), (1, .int 0)]) [1, 0] rfl ?_
    subst e_s0_25
    exact hJ2
/-! LostByStateModel.untilOf(I)I -/
theorem dX12_untilOf_0 : decode cX12_untilOf 0 = .ok (.iconst 1, 1) := by decide +kernel
theorem dX12_untilOf_1 : decode cX12_untilOf 1 = .ok (.aload_n 0, 1) := by decide +kernel
theorem dX12_untilOf_2 : decode cX12_untilOf 2 = .ok (.getfield 13, 3) := by decide +kernel
theorem dX12_untilOf_5 : decode cX12_untilOf 5 = .ok (.aload_n 0, 1) := by decide +kernel
theorem dX12_untilOf_6 : decode cX12_untilOf 6 = .ok (.getfield 9, 3) := by decide +kernel
theorem dX12_untilOf_9 : decode cX12_untilOf 9 = .ok (.bipush 16, 2) := by decide +kernel
theorem dX12_untilOf_11 : decode cX12_untilOf 11 = .ok (.iload_n 1, 1) := by decide +kernel
theorem dX12_untilOf_12 : decode cX12_untilOf 12 = .ok (.iadd, 1) := by decide +kernel
theorem dX12_untilOf_13 : decode cX12_untilOf 13 = .ok (.iaload, 1) := by decide +kernel
theorem dX12_untilOf_14 : decode cX12_untilOf 14 = .ok (.isub, 1) := by decide +kernel
theorem dX12_untilOf_15 : decode cX12_untilOf 15 = .ok (.invokestatic 206, 3) := by decide +kernel
theorem dX12_untilOf_18 : decode cX12_untilOf 18 = .ok (.ireturn, 1) := by decide +kernel
def fX12_untilOf (x1 : Int32) (M : zM) : Option Int32 := if zin (16 + x1) 26 then (
  some (zmax 1 ((M.1 36 3) - (M.1 37 (16 + x1).toNatClampNeg)))) else none
set_option maxHeartbeats 4000000 in
theorem cX12_untilOf_ok {E : zE} {d : Nat} (hd : 1 ≤ d) (x1 : Int32) (M : zM) {K : Int32 → Prop} (h : wpO (fX12_untilOf x1 M) K) : CMi E d yX12_untilOf cX12_untilOf 2 (some .int) [.ref 36, .int x1] M (fun r N => M = N ∧ K r) := by
  refine CMi.of (by decide) (Nat.le_of_ble_eq_true rfl) (fun Γ hC hr => ?_)
  have hC : Cx E Γ RX12 cX12_untilOf 2 d := hC
  show G E Γ 2 0 [(0, .ref 36), (1, .int x1)] [] M
  unfold fX12_untilOf at h
  refine g_iconst (v := 1) hC (dX12_untilOf_0) kc_1 ?_
  refine g_aload_n (i := 0) (x := 36) hC (dX12_untilOf_1) rfl rfl ?_
  refine g_getI hC flX12_13 (dX12_untilOf_2) rfl rfl ?_
  refine g_aload_n (i := 0) (x := 36) hC (dX12_untilOf_5) rfl rfl ?_
  refine g_getR (r := 37) hC flX12_9 (dX12_untilOf_6) rfl rfl rfl ?_
  refine g_bipush (v := 16) hC (dX12_untilOf_9) kb_16 ?_
  refine g_iload_n (i := 1) (x := x1) hC (dX12_untilOf_11) rfl rfl ?_
  refine g_iadd hC (dX12_untilOf_12) ?_
  obtain ⟨q1, h⟩ := wpO_g h
  refine g_iaload (n := 26) hC (dX12_untilOf_13) rfl q1 ?_
  refine g_isub hC (dX12_untilOf_14) ?_
  refine g_max hC wmX12_206 (dX12_untilOf_15) (by omega) (Nat.le_of_ble_eq_true rfl) ?_
  refine g_ireturn hC hr (dX12_untilOf_18) ?_
  exact ⟨rfl, wpO_s h⟩
/-! LostByStateModel.until(I)I -/
theorem dX12_until_0 : decode cX12_until 0 = .ok (.aload_n 0, 1) := by decide +kernel
theorem dX12_until_1 : decode cX12_until 1 = .ok (.iconst 0, 1) := by decide +kernel
theorem dX12_until_2 : decode cX12_until 2 = .ok (.putfield 86, 3) := by decide +kernel
theorem dX12_until_5 : decode cX12_until 5 = .ok (.aload_n 0, 1) := by decide +kernel
theorem dX12_until_6 : decode cX12_until 6 = .ok (.iload_n 1, 1) := by decide +kernel
theorem dX12_until_7 : decode cX12_until 7 = .ok (.invokevirtual 220, 3) := by decide +kernel
theorem dX12_until_10 : decode cX12_until 10 = .ok (.ifCond .ne 5, 3) := by decide +kernel
theorem dX12_until_13 : decode cX12_until 13 = .ok (.iconst (-1), 1) := by decide +kernel
theorem dX12_until_14 : decode cX12_until 14 = .ok (.ireturn, 1) := by decide +kernel
theorem dX12_until_15 : decode cX12_until 15 = .ok (.aload_n 0, 1) := by decide +kernel
theorem dX12_until_16 : decode cX12_until 16 = .ok (.getfield 9, 3) := by decide +kernel
theorem dX12_until_19 : decode cX12_until 19 = .ok (.iload_n 1, 1) := by decide +kernel
theorem dX12_until_20 : decode cX12_until 20 = .ok (.iaload, 1) := by decide +kernel
theorem dX12_until_21 : decode cX12_until 21 = .ok (.iconst 2, 1) := by decide +kernel
theorem dX12_until_22 : decode cX12_until 22 = .ok (.if_icmp .ne 11, 3) := by decide +kernel
theorem dX12_until_25 : decode cX12_until 25 = .ok (.aload_n 0, 1) := by decide +kernel
theorem dX12_until_26 : decode cX12_until 26 = .ok (.iload_n 1, 1) := by decide +kernel
theorem dX12_until_27 : decode cX12_until 27 = .ok (.invokevirtual 303, 3) := by decide +kernel
theorem dX12_until_30 : decode cX12_until 30 = .ok (.goto 5, 3) := by decide +kernel
theorem dX12_until_33 : decode cX12_until 33 = .ok (.bipush (-2), 2) := by decide +kernel
theorem dX12_until_35 : decode cX12_until 35 = .ok (.ireturn, 1) := by decide +kernel
def fX12_until (x1 : Int32) (M : zM) : Option (Int32 × zM) := zlet (zSI M 36 12 0) fun (M2 : zM) =>
  if (fX12_isThing x1 M2) = 0 then (
  some ((-1), M2))
  else (
  if zin x1 26 then (
  if (M2.1 37 x1.toNatClampNeg) = 2 then (
  (fX12_untilOf x1 M2).bind fun (r3 : Int32) =>
  some (r3, M2))
  else (
  some ((-2), M2))) else none)
set_option maxHeartbeats 4000000 in
theorem cX12_until_ok {E : zE} {d : Nat} (hd : 2 ≤ d) (x1 : Int32) (M : zM) {K : (Int32 × zM) → Prop} (h : wpO (fX12_until x1 M) K) : CMi E d yX12_until cX12_until 2 (some .int) [.ref 36, .int x1] M (fun r N => K (r, N)) := by
  refine CMi.of (by decide) (Nat.le_of_ble_eq_true rfl) (fun Γ hC hr => ?_)
  have hC : Cx E Γ RX12 cX12_until 2 d := hC
  show G E Γ 2 0 [(0, .ref 36), (1, .int x1)] [] M
  unfold fX12_until at h
  refine g_aload_n (i := 0) (x := 36) hC (dX12_until_0) rfl rfl ?_
  refine g_iconst (v := 0) hC (dX12_until_1) kc_0 ?_
  refine g_putI hC fpX12_86 (dX12_until_2) rfl rfl rfl rfl ?_
  refine g_nmM (fun M2 e_M2 => ?_)
  have h := wpO_n e_M2 h
  refine g_aload_n (i := 0) (x := 36) hC (dX12_until_5) rfl rfl ?_
  refine g_iload_n (i := 1) (x := x1) hC (dX12_until_6) rfl rfl ?_
  refine g_callVi ([.int x1]) hC wvX12_220 (dX12_until_7) rfl rfl (by omega) (Nat.le_of_ble_eq_true rfl) (cX12_isThing_ok (by omega) x1 M2 (K := fun r => r = fX12_isThing x1 M2) rfl) (fun r N q => ?_)
  obtain ⟨rfl, rfl⟩ := q
  refine g_if_ne (tgt := 15) hC (dX12_until_10) (by decide) (fun c10 => ?_) (fun c10 => ?_)
  · have h := wpO_f c10 h
    refine g_aload_n (i := 0) (x := 36) hC (dX12_until_15) rfl rfl ?_
    refine g_getR (r := 37) hC flX12_9 (dX12_until_16) rfl rfl rfl ?_
    refine g_iload_n (i := 1) (x := x1) hC (dX12_until_19) rfl rfl ?_
    obtain ⟨q2, h⟩ := wpO_g h
    refine g_iaload (n := 26) hC (dX12_until_20) rfl q2 ?_
    refine g_iconst (v := 2) hC (dX12_until_21) kc_2 ?_
    refine g_icmp_ne (tgt := 33) hC (dX12_until_22) (by decide) (fun c22 => ?_) (fun c22 => ?_)
    · have h := wpO_f c22 h
      refine g_bipush (v := (-2)) hC (dX12_until_33) kb_m2 ?_
      refine g_ireturn hC hr (dX12_until_35) ?_
      exact wpO_s h
    · have h := wpO_t c22 h
      refine g_aload_n (i := 0) (x := 36) hC (dX12_until_25) rfl rfl ?_
      refine g_iload_n (i := 1) (x := x1) hC (dX12_until_26) rfl rfl ?_
      have h := wpO_b h
      refine g_callVi ([.int x1]) hC wvX12_303 (dX12_until_27) rfl rfl (by omega) (Nat.le_of_ble_eq_true rfl) (cX12_untilOf_ok (by omega) x1 M2 h) (fun r3 N q => ?_)
      obtain ⟨rfl, h⟩ := q
      refine g_goto (tgt := 35) hC (dX12_until_30) (by decide) ?_
      refine g_ireturn hC hr (dX12_until_35) ?_
      exact wpO_s h
  · have h := wpO_t c10 h
    refine g_iconst (v := (-1)) hC (dX12_until_13) kc_m1 ?_
    refine g_ireturn hC hr (dX12_until_14) ?_
    exact wpO_s h
/-! LostByStateModel.later(I)I -/
theorem dX12_later_0 : decode cX12_later 0 = .ok (.aload_n 0, 1) := by decide +kernel
theorem dX12_later_1 : decode cX12_later 1 = .ok (.iconst 0, 1) := by decide +kernel
theorem dX12_later_2 : decode cX12_later 2 = .ok (.putfield 86, 3) := by decide +kernel
theorem dX12_later_5 : decode cX12_later 5 = .ok (.iload_n 1, 1) := by decide +kernel
theorem dX12_later_6 : decode cX12_later 6 = .ok (.iconst 0, 1) := by decide +kernel
theorem dX12_later_7 : decode cX12_later 7 = .ok (.bipush 99, 2) := by decide +kernel
theorem dX12_later_9 : decode cX12_later 9 = .ok (.invokestatic 95, 3) := by decide +kernel
theorem dX12_later_12 : decode cX12_later 12 = .ok (.ifCond .ne 5, 3) := by decide +kernel
theorem dX12_later_15 : decode cX12_later 15 = .ok (.iconst (-1), 1) := by decide +kernel
theorem dX12_later_16 : decode cX12_later 16 = .ok (.ireturn, 1) := by decide +kernel
theorem dX12_later_17 : decode cX12_later 17 = .ok (.aload_n 0, 1) := by decide +kernel
theorem dX12_later_18 : decode cX12_later 18 = .ok (.getfield 9, 3) := by decide +kernel
theorem dX12_later_21 : decode cX12_later 21 = .ok (.aload_n 0, 1) := by decide +kernel
theorem dX12_later_22 : decode cX12_later 22 = .ok (.getfield 55, 3) := by decide +kernel
theorem dX12_later_25 : decode cX12_later 25 = .ok (.iconst 0, 1) := by decide +kernel
theorem dX12_later_26 : decode cX12_later 26 = .ok (.invokestatic 239, 3) := by decide +kernel
theorem dX12_later_29 : decode cX12_later 29 = .ok (.aload_n 0, 1) := by decide +kernel
theorem dX12_later_30 : decode cX12_later 30 = .ok (.aload_n 0, 1) := by decide +kernel
theorem dX12_later_31 : decode cX12_later 31 = .ok (.getfield 55, 3) := by decide +kernel
theorem dX12_later_34 : decode cX12_later 34 = .ok (.iload_n 1, 1) := by decide +kernel
theorem dX12_later_35 : decode cX12_later 35 = .ok (.invokevirtual 277, 3) := by decide +kernel
theorem dX12_later_38 : decode cX12_later 38 = .ok (.pop, 1) := by decide +kernel
theorem dX12_later_39 : decode cX12_later 39 = .ok (.iconst 0, 1) := by decide +kernel
theorem dX12_later_40 : decode cX12_later 40 = .ok (.istore_n 2, 1) := by decide +kernel
theorem dX12_later_41 : decode cX12_later 41 = .ok (.iconst 0, 1) := by decide +kernel
theorem dX12_later_42 : decode cX12_later 42 = .ok (.istore_n 3, 1) := by decide +kernel
theorem dX12_later_43 : decode cX12_later 43 = .ok (.iload_n 3, 1) := by decide +kernel
theorem dX12_later_44 : decode cX12_later 44 = .ok (.bipush 6, 2) := by decide +kernel
theorem dX12_later_46 : decode cX12_later 46 = .ok (.if_icmp .ge 31, 3) := by decide +kernel
theorem dX12_later_49 : decode cX12_later 49 = .ok (.iload_n 2, 1) := by decide +kernel
theorem dX12_later_50 : decode cX12_later 50 = .ok (.aload_n 0, 1) := by decide +kernel
theorem dX12_later_51 : decode cX12_later 51 = .ok (.aload_n 0, 1) := by decide +kernel
theorem dX12_later_52 : decode cX12_later 52 = .ok (.getfield 55, 3) := by decide +kernel
theorem dX12_later_55 : decode cX12_later 55 = .ok (.iload_n 3, 1) := by decide +kernel
theorem dX12_later_56 : decode cX12_later 56 = .ok (.invokevirtual 213, 3) := by decide +kernel
theorem dX12_later_59 : decode cX12_later 59 = .ok (.ifCond .ne 7, 3) := by decide +kernel
theorem dX12_later_62 : decode cX12_later 62 = .ok (.iconst 0, 1) := by decide +kernel
theorem dX12_later_63 : decode cX12_later 63 = .ok (.goto 6, 3) := by decide +kernel
theorem dX12_later_66 : decode cX12_later 66 = .ok (.iconst 1, 1) := by decide +kernel
theorem dX12_later_67 : decode cX12_later 67 = .ok (.iload_n 3, 1) := by decide +kernel
theorem dX12_later_68 : decode cX12_later 68 = .ok (.ishl, 1) := by decide +kernel
theorem dX12_later_69 : decode cX12_later 69 = .ok (.ior, 1) := by decide +kernel
theorem dX12_later_70 : decode cX12_later 70 = .ok (.istore_n 2, 1) := by decide +kernel
theorem dX12_later_71 : decode cX12_later 71 = .ok (.iinc 3 1, 3) := by decide +kernel
theorem dX12_later_74 : decode cX12_later 74 = .ok (.goto (-31), 3) := by decide +kernel
theorem dX12_later_77 : decode cX12_later 77 = .ok (.aload_n 0, 1) := by decide +kernel
theorem dX12_later_78 : decode cX12_later 78 = .ok (.iconst 0, 1) := by decide +kernel
theorem dX12_later_79 : decode cX12_later 79 = .ok (.putfield 89, 3) := by decide +kernel
theorem dX12_later_82 : decode cX12_later 82 = .ok (.aload_n 0, 1) := by decide +kernel
theorem dX12_later_83 : decode cX12_later 83 = .ok (.aload_n 0, 1) := by decide +kernel
theorem dX12_later_84 : decode cX12_later 84 = .ok (.aload_n 0, 1) := by decide +kernel
theorem dX12_later_85 : decode cX12_later 85 = .ok (.getfield 55, 3) := by decide +kernel
theorem dX12_later_88 : decode cX12_later 88 = .ok (.bipush 6, 2) := by decide +kernel
theorem dX12_later_90 : decode cX12_later 90 = .ok (.invokevirtual 213, 3) := by decide +kernel
theorem dX12_later_93 : decode cX12_later 93 = .ok (.i2l, 1) := by decide +kernel
theorem dX12_later_94 : decode cX12_later 94 = .ok (.invokevirtual 280, 3) := by decide +kernel
theorem dX12_later_97 : decode cX12_later 97 = .ok (.aload_n 0, 1) := by decide +kernel
theorem dX12_later_98 : decode cX12_later 98 = .ok (.iload_n 2, 1) := by decide +kernel
theorem dX12_later_99 : decode cX12_later 99 = .ok (.i2l, 1) := by decide +kernel
theorem dX12_later_100 : decode cX12_later 100 = .ok (.invokevirtual 280, 3) := by decide +kernel
theorem dX12_later_103 : decode cX12_later 103 = .ok (.aload_n 0, 1) := by decide +kernel
theorem dX12_later_104 : decode cX12_later 104 = .ok (.aload_n 0, 1) := by decide +kernel
theorem dX12_later_105 : decode cX12_later 105 = .ok (.getfield 55, 3) := by decide +kernel
theorem dX12_later_108 : decode cX12_later 108 = .ok (.iconst 2, 1) := by decide +kernel
theorem dX12_later_109 : decode cX12_later 109 = .ok (.invokevirtual 209, 3) := by decide +kernel
theorem dX12_later_112 : decode cX12_later 112 = .ok (.ireturn, 1) := by decide +kernel
def fX12_later_L43 (M : zM) : Nat → Int32 → Int32 → Option Int32
  | 0, _, _ => none
  | n + 1, x2, x3 => if 6 ≤ x3 then (
    some x2)
    else (
    (fX12_hadBy 49 x3 M).bind fun (r4 : Int32) =>
    zlet (if r4 = 0 then (
    0)
    else (
    (zshl 1 x3))) fun (s0_69 : Int32) =>
    zlet (x2 ||| s0_69) fun (x2_70 : Int32) =>
    fX12_later_L43 M n x2_70 (x3 + 1))
def fX12_later (x1 : Int32) (M : zM) : Option (Int32 × zM) := zlet (zSI M 36 12 0) fun (M2 : zM) =>
  if (fX12_in x1 0 99) = 0 then (
  some ((-1), M2))
  else (
  (fX12_lay 37 49 0 M2).bind fun (M26 : zM) =>
  (fX12_goDays 49 x1 M26).bind fun (q : Int32 × zM) => zp q fun r3 M35 =>
  (fX12_later_L43 M35 4000 0 0).bind fun (x2_77 : Int32) =>
  zlet (zSI M35 36 11 0) fun (M79 : zM) =>
  (fX12_hadBy 49 6 M79).bind fun (r6 : Int32) =>
  (fX12_tell r6.toInt64 M79).bind fun (M94 : zM) =>
  (fX12_tell x2_77.toInt64 M94).bind fun (M100 : zM) =>
  (fX12_those 49 2 M100).bind fun (r9 : Int32) =>
  some (r9, M100))
set_option maxHeartbeats 4000000 in
theorem lX12_later_43 {E : zE} {Γ : zT} {d : Nat} {K1 : Int32 → Prop} (hC : Cx E Γ RX12 cX12_later 4 d) (hd : 3 ≤ d) (M : zM) (hx : ∀ (x2_77 : Int32), K1 x2_77 → G E Γ 4 77 [(0, .ref 36), (2, .int x2_77)] [] M) :
    ∀ (n : Nat) (x2 : Int32) (x3 : Int32), wpO (fX12_later_L43 M n x2 x3) K1 → G E Γ 4 43 [(0, .ref 36), (2, .int x2), (3, .int x3)] [] M := by
  intro n
  induction n with
  | zero =>
    intro x2 x3 h
    exact (wpO_0 h).elim
  | succ n ih =>
    intro x2 x3 h
    rw [fX12_later_L43.eq_2] at h
    refine g_iload_n (i := 3) (x := x3) hC (dX12_later_43) rfl rfl ?_
    refine g_bipush (v := 6) hC (dX12_later_44) kb_6 ?_
    refine g_icmp_ge (tgt := 77) hC (dX12_later_46) (by decide) (fun c46 => ?_) (fun c46 => ?_)
    · have h := wpO_t c46 h
      refine g_sub (lv' := [(0, .ref 36), (2, .int x2)]) [0, 1] rfl ?_
      exact hx _ (wpO_s h)
    · have h := wpO_f c46 h
      refine g_iload_n (i := 2) (x := x2) hC (dX12_later_49) rfl rfl ?_
      refine g_aload_n (i := 0) (x := 36) hC (dX12_later_50) rfl rfl ?_
      refine g_aload_n (i := 0) (x := 36) hC (dX12_later_51) rfl rfl ?_
      refine g_getR (r := 49) hC flX12_55 (dX12_later_52) rfl rfl rfl ?_
      refine g_iload_n (i := 3) (x := x3) hC (dX12_later_55) rfl rfl ?_
      have h := wpO_b h
      refine g_callVi ([.ref 49, .int x3]) hC wvX12_213 (dX12_later_56) rfl rfl (by omega) (Nat.le_of_ble_eq_true rfl) (cX12_hadBy_ok (by omega) 49 x3 M h) (fun r4 N q => ?_)
      obtain ⟨rfl, h⟩ := q
      obtain ⟨s0_69, e_s0_69, h⟩ := wpO_l h
      have hJ5 : G E Γ 4 69 [(0, .ref 36), (3, .int x3)] [.int s0_69, .int x2] M := by
        refine g_ior hC (dX12_later_69) ?_
        refine g_nmi (fun x2_70 e_x2_70 => ?_)
        have h := wpO_n e_x2_70 h
        refine g_istore_n (i := 2) (lv2 := [(2, .int x2_70), (0, .ref 36), (3, .int x3)]) hC (dX12_later_70) rfl (by decide) rfl ?_
        refine g_iinc (x := x3) (v := (x3 + 1)) (lv2 := [(3, .int (x3 + 1)), (2, .int x2_70), (0, .ref 36)]) hC (dX12_later_71) rfl rfl (by decide) rfl ?_
        refine g_goto (tgt := 43) hC (dX12_later_74) (by decide) ?_
        refine g_sub (lv' := [(0, .ref 36), (2, .int x2_70), (3, .int (x3 + 1))]) [2, 1, 0] rfl ?_
        exact ih _ _ h
      refine g_if_ne (tgt := 66) hC (dX12_later_59) (by decide) (fun c59 => ?_) (fun c59 => ?_)
      · rw [if_neg c59] at e_s0_69
        refine g_iconst (v := 1) hC (dX12_later_66) kc_1 ?_
        refine g_iload_n (i := 3) (x := x3) hC (dX12_later_67) rfl rfl ?_
        refine g_ishl hC (dX12_later_68) ?_
        refine g_sub (lv' := [(0, .ref 36), (3, .int x3)]) [0, 2] rfl ?_
        subst e_s0_69
        exact hJ5
      · rw [if_pos c59] at e_s0_69
        refine g_iconst (v := 0) hC (dX12_later_62) kc_0 ?_
        refine g_goto (tgt := 69) hC (dX12_later_63) (by decide) ?_
        refine g_sub (lv' := [(0, .ref 36), (3, .int x3)]) [0, 2] rfl ?_
        subst e_s0_69
        exact hJ5
set_option maxHeartbeats 4000000 in
theorem cX12_later_ok {E : zE} {d : Nat} (hd : 3 ≤ d) (x1 : Int32) (M : zM) {K : (Int32 × zM) → Prop} (h : wpO (fX12_later x1 M) K) : CMi E d yX12_later cX12_later 4 (some .int) [.ref 36, .int x1] M (fun r N => K (r, N)) := by
  refine CMi.of (by decide) (Nat.le_of_ble_eq_true rfl) (fun Γ hC hr => ?_)
  have hC : Cx E Γ RX12 cX12_later 4 d := hC
  show G E Γ 4 0 [(0, .ref 36), (1, .int x1)] [] M
  unfold fX12_later at h
  refine g_aload_n (i := 0) (x := 36) hC (dX12_later_0) rfl rfl ?_
  refine g_iconst (v := 0) hC (dX12_later_1) kc_0 ?_
  refine g_putI hC fpX12_86 (dX12_later_2) rfl rfl rfl rfl ?_
  refine g_nmM (fun M2 e_M2 => ?_)
  have h := wpO_n e_M2 h
  refine g_iload_n (i := 1) (x := x1) hC (dX12_later_5) rfl rfl ?_
  refine g_iconst (v := 0) hC (dX12_later_6) kc_0 ?_
  refine g_bipush (v := 99) hC (dX12_later_7) kb_99 ?_
  refine g_callSi ([.int x1, .int 0, .int 99]) hC wsX12_95 (dX12_later_9) rfl (by omega) (Nat.le_of_ble_eq_true rfl) (cX12_in_ok (by omega) x1 0 99 M2 (K := fun r => r = fX12_in x1 0 99) rfl) (fun r N q => ?_)
  obtain ⟨rfl, rfl⟩ := q
  refine g_if_ne (tgt := 17) hC (dX12_later_12) (by decide) (fun c12 => ?_) (fun c12 => ?_)
  · have h := wpO_f c12 h
    refine g_aload_n (i := 0) (x := 36) hC (dX12_later_17) rfl rfl ?_
    refine g_getR (r := 37) hC flX12_9 (dX12_later_18) rfl rfl rfl ?_
    refine g_aload_n (i := 0) (x := 36) hC (dX12_later_21) rfl rfl ?_
    refine g_getR (r := 49) hC flX12_55 (dX12_later_22) rfl rfl rfl ?_
    refine g_iconst (v := 0) hC (dX12_later_25) kc_0 ?_
    have h := wpO_b h
    refine g_callSv ([.ref 37, .ref 49, .int 0]) hC wsX12_239 (dX12_later_26) rfl (by omega) (Nat.le_of_ble_eq_true rfl) (cX12_lay_ok (by omega) 37 49 0 M2 h) (fun M26 h => ?_)
    refine g_aload_n (i := 0) (x := 36) hC (dX12_later_29) rfl rfl ?_
    refine g_aload_n (i := 0) (x := 36) hC (dX12_later_30) rfl rfl ?_
    refine g_getR (r := 49) hC flX12_55 (dX12_later_31) rfl rfl rfl ?_
    refine g_iload_n (i := 1) (x := x1) hC (dX12_later_34) rfl rfl ?_
    have h := wpO_b h
    refine g_callVi ([.ref 49, .int x1]) hC wvX12_277 (dX12_later_35) rfl rfl (by omega) (Nat.le_of_ble_eq_true rfl) (cX12_goDays_ok (by omega) 49 x1 M26 h) (fun r3 M35 h => ?_)
    have h := wpO_p h
    refine g_pop hC (dX12_later_38) rfl ?_
    refine g_iconst (v := 0) hC (dX12_later_39) kc_0 ?_
    refine g_istore_n (i := 2) (lv2 := [(2, .int 0), (0, .ref 36), (1, .int x1)]) hC (dX12_later_40) rfl (by decide) rfl ?_
    refine g_iconst (v := 0) hC (dX12_later_41) kc_0 ?_
    refine g_istore_n (i := 3) (lv2 := [(3, .int 0), (2, .int 0), (0, .ref 36), (1, .int x1)]) hC (dX12_later_42) rfl (by decide) rfl ?_
    refine g_sub (lv' := [(0, .ref 36), (2, .int 0), (3, .int 0)]) [2, 1, 0] rfl ?_
    refine wpO_bJ h (fun KL43 hKL43 h => ?_)
    refine lX12_later_43 (K1 := KL43) hC (by omega) M35 (fun x2_77 h => ?_) _ _ _ h
    have h := hKL43 _ h
    refine g_aload_n (i := 0) (x := 36) hC (dX12_later_77) rfl rfl ?_
    refine g_iconst (v := 0) hC (dX12_later_78) kc_0 ?_
    refine g_putI hC fpX12_89 (dX12_later_79) rfl rfl rfl rfl ?_
    refine g_nmM (fun M79 e_M79 => ?_)
    have h := wpO_n e_M79 h
    refine g_aload_n (i := 0) (x := 36) hC (dX12_later_82) rfl rfl ?_
    refine g_aload_n (i := 0) (x := 36) hC (dX12_later_83) rfl rfl ?_
    refine g_aload_n (i := 0) (x := 36) hC (dX12_later_84) rfl rfl ?_
    refine g_getR (r := 49) hC flX12_55 (dX12_later_85) rfl rfl rfl ?_
    refine g_bipush (v := 6) hC (dX12_later_88) kb_6 ?_
    have h := wpO_b h
    refine g_callVi ([.ref 49, .int 6]) hC wvX12_213 (dX12_later_90) rfl rfl (by omega) (Nat.le_of_ble_eq_true rfl) (cX12_hadBy_ok (by omega) 49 6 M79 h) (fun r6 N q => ?_)
    obtain ⟨rfl, h⟩ := q
    refine g_i2l hC (dX12_later_93) ?_
    have h := wpO_b h
    refine g_callVv ([.long r6.toInt64]) hC wvX12_280 (dX12_later_94) rfl rfl (by omega) (Nat.le_of_ble_eq_true rfl) (cX12_tell_ok (by omega) r6.toInt64 M79 h) (fun M94 h => ?_)
    refine g_aload_n (i := 0) (x := 36) hC (dX12_later_97) rfl rfl ?_
    refine g_iload_n (i := 2) (x := x2_77) hC (dX12_later_98) rfl rfl ?_
    refine g_i2l hC (dX12_later_99) ?_
    have h := wpO_b h
    refine g_callVv ([.long x2_77.toInt64]) hC wvX12_280 (dX12_later_100) rfl rfl (by omega) (Nat.le_of_ble_eq_true rfl) (cX12_tell_ok (by omega) x2_77.toInt64 M94 h) (fun M100 h => ?_)
    refine g_aload_n (i := 0) (x := 36) hC (dX12_later_103) rfl rfl ?_
    refine g_aload_n (i := 0) (x := 36) hC (dX12_later_104) rfl rfl ?_
    refine g_getR (r := 49) hC flX12_55 (dX12_later_105) rfl rfl rfl ?_
    refine g_iconst (v := 2) hC (dX12_later_108) kc_2 ?_
    have h := wpO_b h
    refine g_callVi ([.ref 49, .int 2]) hC wvX12_209 (dX12_later_109) rfl rfl (by omega) (Nat.le_of_ble_eq_true rfl) (cX12_those_ok (by omega) 49 2 M100 h) (fun r9 N q => ?_)
    obtain ⟨rfl, h⟩ := q
    refine g_ireturn hC hr (dX12_later_112) ?_
    exact wpO_s h
  · have h := wpO_t c12 h
    refine g_iconst (v := (-1)) hC (dX12_later_15) kc_m1 ?_
    refine g_ireturn hC hr (dX12_later_16) ?_
    exact wpO_s h
/-! LostByStateModel.advantage()I -/
theorem dX12_advantage_0 : decode cX12_advantage 0 = .ok (.aload_n 0, 1) := by decide +kernel
theorem dX12_advantage_1 : decode cX12_advantage 1 = .ok (.iconst 0, 1) := by decide +kernel
theorem dX12_advantage_2 : decode cX12_advantage 2 = .ok (.putfield 86, 3) := by decide +kernel
theorem dX12_advantage_5 : decode cX12_advantage 5 = .ok (.iconst 0, 1) := by decide +kernel
theorem dX12_advantage_6 : decode cX12_advantage 6 = .ok (.istore_n 1, 1) := by decide +kernel
theorem dX12_advantage_7 : decode cX12_advantage 7 = .ok (.iconst 1, 1) := by decide +kernel
theorem dX12_advantage_8 : decode cX12_advantage 8 = .ok (.istore_n 2, 1) := by decide +kernel
theorem dX12_advantage_9 : decode cX12_advantage 9 = .ok (.iload_n 2, 1) := by decide +kernel
theorem dX12_advantage_10 : decode cX12_advantage 10 = .ok (.bipush 6, 2) := by decide +kernel
theorem dX12_advantage_12 : decode cX12_advantage 12 = .ok (.if_icmp .ge 40, 3) := by decide +kernel
theorem dX12_advantage_15 : decode cX12_advantage 15 = .ok (.aload_n 0, 1) := by decide +kernel
theorem dX12_advantage_16 : decode cX12_advantage 16 = .ok (.aload_n 0, 1) := by decide +kernel
theorem dX12_advantage_17 : decode cX12_advantage 17 = .ok (.aload_n 0, 1) := by decide +kernel
theorem dX12_advantage_18 : decode cX12_advantage 18 = .ok (.getfield 9, 3) := by decide +kernel
theorem dX12_advantage_21 : decode cX12_advantage 21 = .ok (.iload_n 2, 1) := by decide +kernel
theorem dX12_advantage_22 : decode cX12_advantage 22 = .ok (.invokevirtual 213, 3) := by decide +kernel
theorem dX12_advantage_25 : decode cX12_advantage 25 = .ok (.invokevirtual 236, 3) := by decide +kernel
theorem dX12_advantage_28 : decode cX12_advantage 28 = .ok (.aload_n 0, 1) := by decide +kernel
theorem dX12_advantage_29 : decode cX12_advantage 29 = .ok (.aload_n 0, 1) := by decide +kernel
theorem dX12_advantage_30 : decode cX12_advantage 30 = .ok (.aload_n 0, 1) := by decide +kernel
theorem dX12_advantage_31 : decode cX12_advantage 31 = .ok (.getfield 9, 3) := by decide +kernel
theorem dX12_advantage_34 : decode cX12_advantage 34 = .ok (.iload_n 1, 1) := by decide +kernel
theorem dX12_advantage_35 : decode cX12_advantage 35 = .ok (.invokevirtual 213, 3) := by decide +kernel
theorem dX12_advantage_38 : decode cX12_advantage 38 = .ok (.invokevirtual 236, 3) := by decide +kernel
theorem dX12_advantage_41 : decode cX12_advantage 41 = .ok (.if_icmp .le 5, 3) := by decide +kernel
theorem dX12_advantage_44 : decode cX12_advantage 44 = .ok (.iload_n 2, 1) := by decide +kernel
theorem dX12_advantage_45 : decode cX12_advantage 45 = .ok (.istore_n 1, 1) := by decide +kernel
theorem dX12_advantage_46 : decode cX12_advantage 46 = .ok (.iinc 2 1, 3) := by decide +kernel
theorem dX12_advantage_49 : decode cX12_advantage 49 = .ok (.goto (-40), 3) := by decide +kernel
theorem dX12_advantage_52 : decode cX12_advantage 52 = .ok (.aload_n 0, 1) := by decide +kernel
theorem dX12_advantage_53 : decode cX12_advantage 53 = .ok (.iconst 0, 1) := by decide +kernel
theorem dX12_advantage_54 : decode cX12_advantage 54 = .ok (.putfield 89, 3) := by decide +kernel
theorem dX12_advantage_57 : decode cX12_advantage 57 = .ok (.aload_n 0, 1) := by decide +kernel
theorem dX12_advantage_58 : decode cX12_advantage 58 = .ok (.aload_n 0, 1) := by decide +kernel
theorem dX12_advantage_59 : decode cX12_advantage 59 = .ok (.aload_n 0, 1) := by decide +kernel
theorem dX12_advantage_60 : decode cX12_advantage 60 = .ok (.aload_n 0, 1) := by decide +kernel
theorem dX12_advantage_61 : decode cX12_advantage 61 = .ok (.getfield 9, 3) := by decide +kernel
theorem dX12_advantage_64 : decode cX12_advantage 64 = .ok (.iload_n 1, 1) := by decide +kernel
theorem dX12_advantage_65 : decode cX12_advantage 65 = .ok (.invokevirtual 213, 3) := by decide +kernel
theorem dX12_advantage_68 : decode cX12_advantage 68 = .ok (.invokevirtual 236, 3) := by decide +kernel
theorem dX12_advantage_71 : decode cX12_advantage 71 = .ok (.i2l, 1) := by decide +kernel
theorem dX12_advantage_72 : decode cX12_advantage 72 = .ok (.invokevirtual 280, 3) := by decide +kernel
theorem dX12_advantage_75 : decode cX12_advantage 75 = .ok (.aload_n 0, 1) := by decide +kernel
theorem dX12_advantage_76 : decode cX12_advantage 76 = .ok (.aload_n 0, 1) := by decide +kernel
theorem dX12_advantage_77 : decode cX12_advantage 77 = .ok (.aload_n 0, 1) := by decide +kernel
theorem dX12_advantage_78 : decode cX12_advantage 78 = .ok (.getfield 9, 3) := by decide +kernel
theorem dX12_advantage_81 : decode cX12_advantage 81 = .ok (.iload_n 1, 1) := by decide +kernel
theorem dX12_advantage_82 : decode cX12_advantage 82 = .ok (.invokevirtual 213, 3) := by decide +kernel
theorem dX12_advantage_85 : decode cX12_advantage 85 = .ok (.i2l, 1) := by decide +kernel
theorem dX12_advantage_86 : decode cX12_advantage 86 = .ok (.invokevirtual 280, 3) := by decide +kernel
theorem dX12_advantage_89 : decode cX12_advantage 89 = .ok (.iload_n 1, 1) := by decide +kernel
theorem dX12_advantage_90 : decode cX12_advantage 90 = .ok (.ireturn, 1) := by decide +kernel
def fX12_advantage_L9 (M : zM) : Nat → Int32 → Int32 → Option Int32
  | 0, _, _ => none
  | n + 1, x1, x2 => if 6 ≤ x2 then (
    some x1)
    else (
    (fX12_hadBy 37 x2 M).bind fun (r1 : Int32) =>
    (fX12_worthOf r1 M).bind fun (r2 : Int32) =>
    (fX12_hadBy 37 x1 M).bind fun (r3 : Int32) =>
    (fX12_worthOf r3 M).bind fun (r4 : Int32) =>
    zlet (if r2 ≤ r4 then (
    x1)
    else (
    x2)) fun (x1_46 : Int32) =>
    fX12_advantage_L9 M n x1_46 (x2 + 1))
def fX12_advantage  (M : zM) : Option (Int32 × zM) := zlet (zSI M 36 12 0) fun (M2 : zM) =>
  (fX12_advantage_L9 M2 4000 0 1).bind fun (x1_52 : Int32) =>
  zlet (zSI M2 36 11 0) fun (M54 : zM) =>
  (fX12_hadBy 37 x1_52 M54).bind fun (r6 : Int32) =>
  (fX12_worthOf r6 M54).bind fun (r7 : Int32) =>
  (fX12_tell r7.toInt64 M54).bind fun (M72 : zM) =>
  (fX12_hadBy 37 x1_52 M72).bind fun (r9 : Int32) =>
  (fX12_tell r9.toInt64 M72).bind fun (M86 : zM) =>
  some (x1_52, M86)
set_option maxHeartbeats 4000000 in
theorem lX12_advantage_9 {E : zE} {Γ : zT} {d : Nat} {K1 : Int32 → Prop} (hC : Cx E Γ RX12 cX12_advantage 3 d) (hd : 2 ≤ d) (M : zM) (hx : ∀ (x1_52 : Int32), K1 x1_52 → G E Γ 3 52 [(0, .ref 36), (1, .int x1_52)] [] M) :
    ∀ (n : Nat) (x1 : Int32) (x2 : Int32), wpO (fX12_advantage_L9 M n x1 x2) K1 → G E Γ 3 9 [(0, .ref 36), (1, .int x1), (2, .int x2)] [] M := by
  intro n
  induction n with
  | zero =>
    intro x1 x2 h
    exact (wpO_0 h).elim
  | succ n ih =>
    intro x1 x2 h
    rw [fX12_advantage_L9.eq_2] at h
    refine g_iload_n (i := 2) (x := x2) hC (dX12_advantage_9) rfl rfl ?_
    refine g_bipush (v := 6) hC (dX12_advantage_10) kb_6 ?_
    refine g_icmp_ge (tgt := 52) hC (dX12_advantage_12) (by decide) (fun c12 => ?_) (fun c12 => ?_)
    · have h := wpO_t c12 h
      refine g_sub (lv' := [(0, .ref 36), (1, .int x1)]) [0, 1] rfl ?_
      exact hx _ (wpO_s h)
    · have h := wpO_f c12 h
      refine g_aload_n (i := 0) (x := 36) hC (dX12_advantage_15) rfl rfl ?_
      refine g_aload_n (i := 0) (x := 36) hC (dX12_advantage_16) rfl rfl ?_
      refine g_aload_n (i := 0) (x := 36) hC (dX12_advantage_17) rfl rfl ?_
      refine g_getR (r := 37) hC flX12_9 (dX12_advantage_18) rfl rfl rfl ?_
      refine g_iload_n (i := 2) (x := x2) hC (dX12_advantage_21) rfl rfl ?_
      have h := wpO_b h
      refine g_callVi ([.ref 37, .int x2]) hC wvX12_213 (dX12_advantage_22) rfl rfl (by omega) (Nat.le_of_ble_eq_true rfl) (cX12_hadBy_ok (by omega) 37 x2 M h) (fun r1 N q => ?_)
      obtain ⟨rfl, h⟩ := q
      have h := wpO_b h
      refine g_callVi ([.int r1]) hC wvX12_236 (dX12_advantage_25) rfl rfl (by omega) (Nat.le_of_ble_eq_true rfl) (cX12_worthOf_ok (by omega) r1 M h) (fun r2 N q => ?_)
      obtain ⟨rfl, h⟩ := q
      refine g_aload_n (i := 0) (x := 36) hC (dX12_advantage_28) rfl rfl ?_
      refine g_aload_n (i := 0) (x := 36) hC (dX12_advantage_29) rfl rfl ?_
      refine g_aload_n (i := 0) (x := 36) hC (dX12_advantage_30) rfl rfl ?_
      refine g_getR (r := 37) hC flX12_9 (dX12_advantage_31) rfl rfl rfl ?_
      refine g_iload_n (i := 1) (x := x1) hC (dX12_advantage_34) rfl rfl ?_
      have h := wpO_b h
      refine g_callVi ([.ref 37, .int x1]) hC wvX12_213 (dX12_advantage_35) rfl rfl (by omega) (Nat.le_of_ble_eq_true rfl) (cX12_hadBy_ok (by omega) 37 x1 M h) (fun r3 N q => ?_)
      obtain ⟨rfl, h⟩ := q
      have h := wpO_b h
      refine g_callVi ([.int r3]) hC wvX12_236 (dX12_advantage_38) rfl rfl (by omega) (Nat.le_of_ble_eq_true rfl) (cX12_worthOf_ok (by omega) r3 M h) (fun r4 N q => ?_)
      obtain ⟨rfl, h⟩ := q
      obtain ⟨x1_46, e_x1_46, h⟩ := wpO_l h
      have hJ5 : G E Γ 3 46 [(0, .ref 36), (1, .int x1_46), (2, .int x2)] [] M := by
        refine g_iinc (x := x2) (v := (x2 + 1)) (lv2 := [(2, .int (x2 + 1)), (0, .ref 36), (1, .int x1_46)]) hC (dX12_advantage_46) rfl rfl (by decide) rfl ?_
        refine g_goto (tgt := 9) hC (dX12_advantage_49) (by decide) ?_
        refine g_sub (lv' := [(0, .ref 36), (1, .int x1_46), (2, .int (x2 + 1))]) [1, 2, 0] rfl ?_
        exact ih _ _ h
      refine g_icmp_le (tgt := 46) hC (dX12_advantage_41) (by decide) (fun c41 => ?_) (fun c41 => ?_)
      · rw [if_pos c41] at e_x1_46
        subst e_x1_46
        exact hJ5
      · rw [if_neg c41] at e_x1_46
        refine g_iload_n (i := 2) (x := x2) hC (dX12_advantage_44) rfl rfl ?_
        refine g_istore_n (i := 1) (lv2 := [(1, .int x2), (0, .ref 36), (2, .int x2)]) hC (dX12_advantage_45) rfl (by decide) rfl ?_
        refine g_sub (lv' := [(0, .ref 36), (1, .int x2), (2, .int x2)]) [1, 0, 2] rfl ?_
        subst e_x1_46
        exact hJ5
set_option maxHeartbeats 4000000 in
theorem cX12_advantage_ok {E : zE} {d : Nat} (hd : 2 ≤ d)  (M : zM) {K : (Int32 × zM) → Prop} (h : wpO (fX12_advantage  M) K) : CMi E d yX12_advantage cX12_advantage 3 (some .int) [.ref 36] M (fun r N => K (r, N)) := by
  refine CMi.of (by decide) (Nat.le_of_ble_eq_true rfl) (fun Γ hC hr => ?_)
  have hC : Cx E Γ RX12 cX12_advantage 3 d := hC
  show G E Γ 3 0 [(0, .ref 36)] [] M
  unfold fX12_advantage at h
  refine g_aload_n (i := 0) (x := 36) hC (dX12_advantage_0) rfl rfl ?_
  refine g_iconst (v := 0) hC (dX12_advantage_1) kc_0 ?_
  refine g_putI hC fpX12_86 (dX12_advantage_2) rfl rfl rfl rfl ?_
  refine g_nmM (fun M2 e_M2 => ?_)
  have h := wpO_n e_M2 h
  refine g_iconst (v := 0) hC (dX12_advantage_5) kc_0 ?_
  refine g_istore_n (i := 1) (lv2 := [(1, .int 0), (0, .ref 36)]) hC (dX12_advantage_6) rfl (by decide) rfl ?_
  refine g_iconst (v := 1) hC (dX12_advantage_7) kc_1 ?_
  refine g_istore_n (i := 2) (lv2 := [(2, .int 1), (1, .int 0), (0, .ref 36)]) hC (dX12_advantage_8) rfl (by decide) rfl ?_
  refine g_sub (lv' := [(0, .ref 36), (1, .int 0), (2, .int 1)]) [2, 1, 0] rfl ?_
  refine wpO_bJ h (fun KL9 hKL9 h => ?_)
  refine lX12_advantage_9 (K1 := KL9) hC (by omega) M2 (fun x1_52 h => ?_) _ _ _ h
  have h := hKL9 _ h
  refine g_aload_n (i := 0) (x := 36) hC (dX12_advantage_52) rfl rfl ?_
  refine g_iconst (v := 0) hC (dX12_advantage_53) kc_0 ?_
  refine g_putI hC fpX12_89 (dX12_advantage_54) rfl rfl rfl rfl ?_
  refine g_nmM (fun M54 e_M54 => ?_)
  have h := wpO_n e_M54 h
  refine g_aload_n (i := 0) (x := 36) hC (dX12_advantage_57) rfl rfl ?_
  refine g_aload_n (i := 0) (x := 36) hC (dX12_advantage_58) rfl rfl ?_
  refine g_aload_n (i := 0) (x := 36) hC (dX12_advantage_59) rfl rfl ?_
  refine g_aload_n (i := 0) (x := 36) hC (dX12_advantage_60) rfl rfl ?_
  refine g_getR (r := 37) hC flX12_9 (dX12_advantage_61) rfl rfl rfl ?_
  refine g_iload_n (i := 1) (x := x1_52) hC (dX12_advantage_64) rfl rfl ?_
  have h := wpO_b h
  refine g_callVi ([.ref 37, .int x1_52]) hC wvX12_213 (dX12_advantage_65) rfl rfl (by omega) (Nat.le_of_ble_eq_true rfl) (cX12_hadBy_ok (by omega) 37 x1_52 M54 h) (fun r6 N q => ?_)
  obtain ⟨rfl, h⟩ := q
  have h := wpO_b h
  refine g_callVi ([.int r6]) hC wvX12_236 (dX12_advantage_68) rfl rfl (by omega) (Nat.le_of_ble_eq_true rfl) (cX12_worthOf_ok (by omega) r6 M54 h) (fun r7 N q => ?_)
  obtain ⟨rfl, h⟩ := q
  refine g_i2l hC (dX12_advantage_71) ?_
  have h := wpO_b h
  refine g_callVv ([.long r7.toInt64]) hC wvX12_280 (dX12_advantage_72) rfl rfl (by omega) (Nat.le_of_ble_eq_true rfl) (cX12_tell_ok (by omega) r7.toInt64 M54 h) (fun M72 h => ?_)
  refine g_aload_n (i := 0) (x := 36) hC (dX12_advantage_75) rfl rfl ?_
  refine g_aload_n (i := 0) (x := 36) hC (dX12_advantage_76) rfl rfl ?_
  refine g_aload_n (i := 0) (x := 36) hC (dX12_advantage_77) rfl rfl ?_
  refine g_getR (r := 37) hC flX12_9 (dX12_advantage_78) rfl rfl rfl ?_
  refine g_iload_n (i := 1) (x := x1_52) hC (dX12_advantage_81) rfl rfl ?_
  have h := wpO_b h
  refine g_callVi ([.ref 37, .int x1_52]) hC wvX12_213 (dX12_advantage_82) rfl rfl (by omega) (Nat.le_of_ble_eq_true rfl) (cX12_hadBy_ok (by omega) 37 x1_52 M72 h) (fun r9 N q => ?_)
  obtain ⟨rfl, h⟩ := q
  refine g_i2l hC (dX12_advantage_85) ?_
  have h := wpO_b h
  refine g_callVv ([.long r9.toInt64]) hC wvX12_280 (dX12_advantage_86) rfl rfl (by omega) (Nat.le_of_ble_eq_true rfl) (cX12_tell_ok (by omega) r9.toInt64 M72 h) (fun M86 h => ?_)
  refine g_iload_n (i := 1) (x := x1_52) hC (dX12_advantage_89) rfl rfl ?_
  refine g_ireturn hC hr (dX12_advantage_90) ?_
  exact wpO_s h
/-! LostByStateModel.soonest()I -/
theorem dX12_soonest_0 : decode cX12_soonest 0 = .ok (.aload_n 0, 1) := by decide +kernel
theorem dX12_soonest_1 : decode cX12_soonest 1 = .ok (.iconst 0, 1) := by decide +kernel
theorem dX12_soonest_2 : decode cX12_soonest 2 = .ok (.putfield 86, 3) := by decide +kernel
theorem dX12_soonest_5 : decode cX12_soonest 5 = .ok (.bipush (-2), 2) := by decide +kernel
theorem dX12_soonest_7 : decode cX12_soonest 7 = .ok (.istore_n 1, 1) := by decide +kernel
theorem dX12_soonest_8 : decode cX12_soonest 8 = .ok (.iconst 0, 1) := by decide +kernel
theorem dX12_soonest_9 : decode cX12_soonest 9 = .ok (.istore_n 2, 1) := by decide +kernel
theorem dX12_soonest_10 : decode cX12_soonest 10 = .ok (.iload_n 2, 1) := by decide +kernel
theorem dX12_soonest_11 : decode cX12_soonest 11 = .ok (.aload_n 0, 1) := by decide +kernel
theorem dX12_soonest_12 : decode cX12_soonest 12 = .ok (.getfield 92, 3) := by decide +kernel
theorem dX12_soonest_15 : decode cX12_soonest 15 = .ok (.if_icmp .ge 40, 3) := by decide +kernel
theorem dX12_soonest_18 : decode cX12_soonest 18 = .ok (.aload_n 0, 1) := by decide +kernel
theorem dX12_soonest_19 : decode cX12_soonest 19 = .ok (.getfield 9, 3) := by decide +kernel
theorem dX12_soonest_22 : decode cX12_soonest 22 = .ok (.iload_n 2, 1) := by decide +kernel
theorem dX12_soonest_23 : decode cX12_soonest 23 = .ok (.iaload, 1) := by decide +kernel
theorem dX12_soonest_24 : decode cX12_soonest 24 = .ok (.iconst 2, 1) := by decide +kernel
theorem dX12_soonest_25 : decode cX12_soonest 25 = .ok (.if_icmp .ne 24, 3) := by decide +kernel
theorem dX12_soonest_28 : decode cX12_soonest 28 = .ok (.iload_n 1, 1) := by decide +kernel
theorem dX12_soonest_29 : decode cX12_soonest 29 = .ok (.bipush (-2), 2) := by decide +kernel
theorem dX12_soonest_31 : decode cX12_soonest 31 = .ok (.if_icmp .eq 16, 3) := by decide +kernel
theorem dX12_soonest_34 : decode cX12_soonest 34 = .ok (.aload_n 0, 1) := by decide +kernel
theorem dX12_soonest_35 : decode cX12_soonest 35 = .ok (.iload_n 2, 1) := by decide +kernel
theorem dX12_soonest_36 : decode cX12_soonest 36 = .ok (.invokevirtual 303, 3) := by decide +kernel
theorem dX12_soonest_39 : decode cX12_soonest 39 = .ok (.aload_n 0, 1) := by decide +kernel
theorem dX12_soonest_40 : decode cX12_soonest 40 = .ok (.iload_n 1, 1) := by decide +kernel
theorem dX12_soonest_41 : decode cX12_soonest 41 = .ok (.invokevirtual 303, 3) := by decide +kernel
theorem dX12_soonest_44 : decode cX12_soonest 44 = .ok (.if_icmp .ge 5, 3) := by decide +kernel
theorem dX12_soonest_47 : decode cX12_soonest 47 = .ok (.iload_n 2, 1) := by decide +kernel
theorem dX12_soonest_48 : decode cX12_soonest 48 = .ok (.istore_n 1, 1) := by decide +kernel
theorem dX12_soonest_49 : decode cX12_soonest 49 = .ok (.iinc 2 1, 3) := by decide +kernel
theorem dX12_soonest_52 : decode cX12_soonest 52 = .ok (.goto (-42), 3) := by decide +kernel
theorem dX12_soonest_55 : decode cX12_soonest 55 = .ok (.iload_n 1, 1) := by decide +kernel
theorem dX12_soonest_56 : decode cX12_soonest 56 = .ok (.bipush (-2), 2) := by decide +kernel
theorem dX12_soonest_58 : decode cX12_soonest 58 = .ok (.if_icmp .ne 6, 3) := by decide +kernel
theorem dX12_soonest_61 : decode cX12_soonest 61 = .ok (.bipush (-2), 2) := by decide +kernel
theorem dX12_soonest_63 : decode cX12_soonest 63 = .ok (.ireturn, 1) := by decide +kernel
theorem dX12_soonest_64 : decode cX12_soonest 64 = .ok (.aload_n 0, 1) := by decide +kernel
theorem dX12_soonest_65 : decode cX12_soonest 65 = .ok (.iconst 0, 1) := by decide +kernel
theorem dX12_soonest_66 : decode cX12_soonest 66 = .ok (.putfield 89, 3) := by decide +kernel
theorem dX12_soonest_69 : decode cX12_soonest 69 = .ok (.aload_n 0, 1) := by decide +kernel
theorem dX12_soonest_70 : decode cX12_soonest 70 = .ok (.aload_n 0, 1) := by decide +kernel
theorem dX12_soonest_71 : decode cX12_soonest 71 = .ok (.iload_n 1, 1) := by decide +kernel
theorem dX12_soonest_72 : decode cX12_soonest 72 = .ok (.invokevirtual 303, 3) := by decide +kernel
theorem dX12_soonest_75 : decode cX12_soonest 75 = .ok (.i2l, 1) := by decide +kernel
theorem dX12_soonest_76 : decode cX12_soonest 76 = .ok (.invokevirtual 280, 3) := by decide +kernel
theorem dX12_soonest_79 : decode cX12_soonest 79 = .ok (.aload_n 0, 1) := by decide +kernel
theorem dX12_soonest_80 : decode cX12_soonest 80 = .ok (.aload_n 0, 1) := by decide +kernel
theorem dX12_soonest_81 : decode cX12_soonest 81 = .ok (.getfield 9, 3) := by decide +kernel
theorem dX12_soonest_84 : decode cX12_soonest 84 = .ok (.bipush 8, 2) := by decide +kernel
theorem dX12_soonest_86 : decode cX12_soonest 86 = .ok (.iload_n 1, 1) := by decide +kernel
theorem dX12_soonest_87 : decode cX12_soonest 87 = .ok (.iadd, 1) := by decide +kernel
theorem dX12_soonest_88 : decode cX12_soonest 88 = .ok (.iaload, 1) := by decide +kernel
theorem dX12_soonest_89 : decode cX12_soonest 89 = .ok (.i2l, 1) := by decide +kernel
theorem dX12_soonest_90 : decode cX12_soonest 90 = .ok (.invokevirtual 280, 3) := by decide +kernel
theorem dX12_soonest_93 : decode cX12_soonest 93 = .ok (.iload_n 1, 1) := by decide +kernel
theorem dX12_soonest_94 : decode cX12_soonest 94 = .ok (.ireturn, 1) := by decide +kernel
def fX12_soonest_L10 (M : zM) : Nat → Int32 → Int32 → Option Int32
  | 0, _, _ => none
  | n + 1, x1, x2 => if (M.1 36 1) ≤ x2 then (
    some x1)
    else (
    if zin x2 26 then (
    (if (M.1 37 x2.toNatClampNeg) = 2 then (
    zj (fun (_ : Unit) =>
    some x2)
    fun J3 =>
    if x1 = (-2) then (
    J3 ())
    else (
    (fX12_untilOf x2 M).bind fun (r4 : Int32) =>
    (fX12_untilOf x1 M).bind fun (r5 : Int32) =>
    if r5 ≤ r4 then (
    some x1)
    else (
    J3 ())))
    else (
    some x1) : Option Int32).bind fun (x1_49 : Int32) =>
    fX12_soonest_L10 M n x1_49 (x2 + 1)) else none)
def fX12_soonest  (M : zM) : Option (Int32 × zM) := zlet (zSI M 36 12 0) fun (M2 : zM) =>
  (fX12_soonest_L10 M2 4000 (-2) 0).bind fun (x1_55 : Int32) =>
  if x1_55 = (-2) then (
  some ((-2), M2))
  else (
  zlet (zSI M2 36 11 0) fun (M66 : zM) =>
  (fX12_untilOf x1_55 M66).bind fun (r6 : Int32) =>
  (fX12_tell r6.toInt64 M66).bind fun (M76 : zM) =>
  if zin (8 + x1_55) 26 then (
  (fX12_tell ((M76.1 37 (8 + x1_55).toNatClampNeg).toInt64) M76).bind fun (M90 : zM) =>
  some (x1_55, M90)) else none)
set_option maxHeartbeats 4000000 in
theorem lX12_soonest_10 {E : zE} {Γ : zT} {d : Nat} {K1 : Int32 → Prop} (hC : Cx E Γ RX12 cX12_soonest 3 d) (hd : 2 ≤ d) (M : zM) (hx : ∀ (x1_55 : Int32), K1 x1_55 → G E Γ 3 55 [(0, .ref 36), (1, .int x1_55)] [] M) :
    ∀ (n : Nat) (x1 : Int32) (x2 : Int32), wpO (fX12_soonest_L10 M n x1 x2) K1 → G E Γ 3 10 [(0, .ref 36), (1, .int x1), (2, .int x2)] [] M := by
  intro n
  induction n with
  | zero =>
    intro x1 x2 h
    exact (wpO_0 h).elim
  | succ n ih =>
    intro x1 x2 h
    rw [fX12_soonest_L10.eq_2] at h
    refine g_iload_n (i := 2) (x := x2) hC (dX12_soonest_10) rfl rfl ?_
    refine g_aload_n (i := 0) (x := 36) hC (dX12_soonest_11) rfl rfl ?_
    refine g_getI hC flX12_92 (dX12_soonest_12) rfl rfl ?_
    refine g_icmp_ge (tgt := 55) hC (dX12_soonest_15) (by decide) (fun c15 => ?_) (fun c15 => ?_)
    · have h := wpO_t c15 h
      refine g_sub (lv' := [(0, .ref 36), (1, .int x1)]) [0, 1] rfl ?_
      exact hx _ (wpO_s h)
    · have h := wpO_f c15 h
      refine g_aload_n (i := 0) (x := 36) hC (dX12_soonest_18) rfl rfl ?_
      refine g_getR (r := 37) hC flX12_9 (dX12_soonest_19) rfl rfl rfl ?_
      refine g_iload_n (i := 2) (x := x2) hC (dX12_soonest_22) rfl rfl ?_
      obtain ⟨q1, h⟩ := wpO_g h
      refine g_iaload (n := 26) hC (dX12_soonest_23) rfl q1 ?_
      refine g_iconst (v := 2) hC (dX12_soonest_24) kc_2 ?_
      refine wpO_bJ h (fun KJ2 hKJ2 h => ?_)
      have hJ2 : ∀ (x1_49 : Int32), KJ2 x1_49 → G E Γ 3 49 [(0, .ref 36), (1, .int x1_49), (2, .int x2)] [] M := by
        intro x1_49 h
        have h := hKJ2 _ h
        refine g_iinc (x := x2) (v := (x2 + 1)) (lv2 := [(2, .int (x2 + 1)), (0, .ref 36), (1, .int x1_49)]) hC (dX12_soonest_49) rfl rfl (by decide) rfl ?_
        refine g_goto (tgt := 10) hC (dX12_soonest_52) (by decide) ?_
        refine g_sub (lv' := [(0, .ref 36), (1, .int x1_49), (2, .int (x2 + 1))]) [1, 2, 0] rfl ?_
        exact ih _ _ h
      refine g_icmp_ne (tgt := 49) hC (dX12_soonest_25) (by decide) (fun c25 => ?_) (fun c25 => ?_)
      · have h := wpO_f c25 h
        exact hJ2 _ (wpO_s h)
      · have h := wpO_t c25 h
        refine g_iload_n (i := 1) (x := x1) hC (dX12_soonest_28) rfl rfl ?_
        refine g_bipush (v := (-2)) hC (dX12_soonest_29) kb_m2 ?_
        refine wpO_j h (fun J3 hkJ3 h => ?_)
        have hJ3 : ∀ (_ : Unit), wpO (J3 ()) KJ2 → G E Γ 3 47 [(0, .ref 36), (2, .int x2)] [] M := by
          intro _ h
          have h := hkJ3 _ h
          refine g_iload_n (i := 2) (x := x2) hC (dX12_soonest_47) rfl rfl ?_
          refine g_istore_n (i := 1) (lv2 := [(1, .int x2), (0, .ref 36), (2, .int x2)]) hC (dX12_soonest_48) rfl (by decide) rfl ?_
          refine g_sub (lv' := [(0, .ref 36), (1, .int x2), (2, .int x2)]) [1, 0, 2] rfl ?_
          exact hJ2 _ (wpO_s h)
        refine g_icmp_eq (tgt := 47) hC (dX12_soonest_31) (by decide) (fun c31 => ?_) (fun c31 => ?_)
        · have h := wpO_t c31 h
          refine g_sub (lv' := [(0, .ref 36), (2, .int x2)]) [0, 2] rfl ?_
          exact hJ3 () h
        · have h := wpO_f c31 h
          refine g_aload_n (i := 0) (x := 36) hC (dX12_soonest_34) rfl rfl ?_
          refine g_iload_n (i := 2) (x := x2) hC (dX12_soonest_35) rfl rfl ?_
          have h := wpO_b h
          refine g_callVi ([.int x2]) hC wvX12_303 (dX12_soonest_36) rfl rfl (by omega) (Nat.le_of_ble_eq_true rfl) (cX12_untilOf_ok (by omega) x2 M h) (fun r4 N q => ?_)
          obtain ⟨rfl, h⟩ := q
          refine g_aload_n (i := 0) (x := 36) hC (dX12_soonest_39) rfl rfl ?_
          refine g_iload_n (i := 1) (x := x1) hC (dX12_soonest_40) rfl rfl ?_
          have h := wpO_b h
          refine g_callVi ([.int x1]) hC wvX12_303 (dX12_soonest_41) rfl rfl (by omega) (Nat.le_of_ble_eq_true rfl) (cX12_untilOf_ok (by omega) x1 M h) (fun r5 N q => ?_)
          obtain ⟨rfl, h⟩ := q
          refine g_icmp_ge (tgt := 49) hC (dX12_soonest_44) (by decide) (fun c44 => ?_) (fun c44 => ?_)
          · have h := wpO_t c44 h
            exact hJ2 _ (wpO_s h)
          · have h := wpO_f c44 h
            refine g_sub (lv' := [(0, .ref 36), (2, .int x2)]) [0, 2] rfl ?_
            exact hJ3 () h
set_option maxHeartbeats 4000000 in
theorem cX12_soonest_ok {E : zE} {d : Nat} (hd : 2 ≤ d)  (M : zM) {K : (Int32 × zM) → Prop} (h : wpO (fX12_soonest  M) K) : CMi E d yX12_soonest cX12_soonest 3 (some .int) [.ref 36] M (fun r N => K (r, N)) := by
  refine CMi.of (by decide) (Nat.le_of_ble_eq_true rfl) (fun Γ hC hr => ?_)
  have hC : Cx E Γ RX12 cX12_soonest 3 d := hC
  show G E Γ 3 0 [(0, .ref 36)] [] M
  unfold fX12_soonest at h
  refine g_aload_n (i := 0) (x := 36) hC (dX12_soonest_0) rfl rfl ?_
  refine g_iconst (v := 0) hC (dX12_soonest_1) kc_0 ?_
  refine g_putI hC fpX12_86 (dX12_soonest_2) rfl rfl rfl rfl ?_
  refine g_nmM (fun M2 e_M2 => ?_)
  have h := wpO_n e_M2 h
  refine g_bipush (v := (-2)) hC (dX12_soonest_5) kb_m2 ?_
  refine g_istore_n (i := 1) (lv2 := [(1, .int (-2)), (0, .ref 36)]) hC (dX12_soonest_7) rfl (by decide) rfl ?_
  refine g_iconst (v := 0) hC (dX12_soonest_8) kc_0 ?_
  refine g_istore_n (i := 2) (lv2 := [(2, .int 0), (1, .int (-2)), (0, .ref 36)]) hC (dX12_soonest_9) rfl (by decide) rfl ?_
  refine g_sub (lv' := [(0, .ref 36), (1, .int (-2)), (2, .int 0)]) [2, 1, 0] rfl ?_
  refine wpO_bJ h (fun KL10 hKL10 h => ?_)
  refine lX12_soonest_10 (K1 := KL10) hC (by omega) M2 (fun x1_55 h => ?_) _ _ _ h
  have h := hKL10 _ h
  refine g_iload_n (i := 1) (x := x1_55) hC (dX12_soonest_55) rfl rfl ?_
  refine g_bipush (v := (-2)) hC (dX12_soonest_56) kb_m2 ?_
  refine g_icmp_ne (tgt := 64) hC (dX12_soonest_58) (by decide) (fun c58 => ?_) (fun c58 => ?_)
  · have h := wpO_f c58 h
    refine g_aload_n (i := 0) (x := 36) hC (dX12_soonest_64) rfl rfl ?_
    refine g_iconst (v := 0) hC (dX12_soonest_65) kc_0 ?_
    refine g_putI hC fpX12_89 (dX12_soonest_66) rfl rfl rfl rfl ?_
    refine g_nmM (fun M66 e_M66 => ?_)
    have h := wpO_n e_M66 h
    refine g_aload_n (i := 0) (x := 36) hC (dX12_soonest_69) rfl rfl ?_
    refine g_aload_n (i := 0) (x := 36) hC (dX12_soonest_70) rfl rfl ?_
    refine g_iload_n (i := 1) (x := x1_55) hC (dX12_soonest_71) rfl rfl ?_
    have h := wpO_b h
    refine g_callVi ([.int x1_55]) hC wvX12_303 (dX12_soonest_72) rfl rfl (by omega) (Nat.le_of_ble_eq_true rfl) (cX12_untilOf_ok (by omega) x1_55 M66 h) (fun r6 N q => ?_)
    obtain ⟨rfl, h⟩ := q
    refine g_i2l hC (dX12_soonest_75) ?_
    have h := wpO_b h
    refine g_callVv ([.long r6.toInt64]) hC wvX12_280 (dX12_soonest_76) rfl rfl (by omega) (Nat.le_of_ble_eq_true rfl) (cX12_tell_ok (by omega) r6.toInt64 M66 h) (fun M76 h => ?_)
    refine g_aload_n (i := 0) (x := 36) hC (dX12_soonest_79) rfl rfl ?_
    refine g_aload_n (i := 0) (x := 36) hC (dX12_soonest_80) rfl rfl ?_
    refine g_getR (r := 37) hC flX12_9 (dX12_soonest_81) rfl rfl rfl ?_
    refine g_bipush (v := 8) hC (dX12_soonest_84) kb_8 ?_
    refine g_iload_n (i := 1) (x := x1_55) hC (dX12_soonest_86) rfl rfl ?_
    refine g_iadd hC (dX12_soonest_87) ?_
    obtain ⟨q8, h⟩ := wpO_g h
    refine g_iaload (n := 26) hC (dX12_soonest_88) rfl q8 ?_
    refine g_i2l hC (dX12_soonest_89) ?_
    have h := wpO_b h
    refine g_callVv ([.long ((M76.1 37 (8 + x1_55).toNatClampNeg).toInt64)]) hC wvX12_280 (dX12_soonest_90) rfl rfl (by omega) (Nat.le_of_ble_eq_true rfl) (cX12_tell_ok (by omega) ((M76.1 37 (8 + x1_55).toNatClampNeg).toInt64) M76 h) (fun M90 h => ?_)
    refine g_iload_n (i := 1) (x := x1_55) hC (dX12_soonest_93) rfl rfl ?_
    refine g_ireturn hC hr (dX12_soonest_94) ?_
    exact wpO_s h
  · have h := wpO_t c58 h
    refine g_bipush (v := (-2)) hC (dX12_soonest_61) kb_m2 ?_
    refine g_ireturn hC hr (dX12_soonest_63) ?_
    exact wpO_s h
/-! LostByStateModel.confused(I)I -/
theorem dX12_confused_0 : decode cX12_confused 0 = .ok (.aload_n 0, 1) := by decide +kernel
theorem dX12_confused_1 : decode cX12_confused 1 = .ok (.iconst 0, 1) := by decide +kernel
theorem dX12_confused_2 : decode cX12_confused 2 = .ok (.putfield 86, 3) := by decide +kernel
theorem dX12_confused_5 : decode cX12_confused 5 = .ok (.aload_n 0, 1) := by decide +kernel
theorem dX12_confused_6 : decode cX12_confused 6 = .ok (.iload_n 1, 1) := by decide +kernel
theorem dX12_confused_7 : decode cX12_confused 7 = .ok (.invokevirtual 220, 3) := by decide +kernel
theorem dX12_confused_10 : decode cX12_confused 10 = .ok (.ifCond .ne 5, 3) := by decide +kernel
theorem dX12_confused_13 : decode cX12_confused 13 = .ok (.iconst (-1), 1) := by decide +kernel
theorem dX12_confused_14 : decode cX12_confused 14 = .ok (.ireturn, 1) := by decide +kernel
theorem dX12_confused_15 : decode cX12_confused 15 = .ok (.bipush (-2), 2) := by decide +kernel
theorem dX12_confused_17 : decode cX12_confused 17 = .ok (.istore_n 2, 1) := by decide +kernel
theorem dX12_confused_18 : decode cX12_confused 18 = .ok (.iconst 0, 1) := by decide +kernel
theorem dX12_confused_19 : decode cX12_confused 19 = .ok (.istore_n 3, 1) := by decide +kernel
theorem dX12_confused_20 : decode cX12_confused 20 = .ok (.iload_n 3, 1) := by decide +kernel
theorem dX12_confused_21 : decode cX12_confused 21 = .ok (.aload_n 0, 1) := by decide +kernel
theorem dX12_confused_22 : decode cX12_confused 22 = .ok (.getfield 92, 3) := by decide +kernel
theorem dX12_confused_25 : decode cX12_confused 25 = .ok (.if_icmp .ge 65, 3) := by decide +kernel
theorem dX12_confused_28 : decode cX12_confused 28 = .ok (.iload_n 3, 1) := by decide +kernel
theorem dX12_confused_29 : decode cX12_confused 29 = .ok (.iload_n 1, 1) := by decide +kernel
theorem dX12_confused_30 : decode cX12_confused 30 = .ok (.if_icmp .eq 54, 3) := by decide +kernel
theorem dX12_confused_33 : decode cX12_confused 33 = .ok (.aload_n 0, 1) := by decide +kernel
theorem dX12_confused_34 : decode cX12_confused 34 = .ok (.getfield 9, 3) := by decide +kernel
theorem dX12_confused_37 : decode cX12_confused 37 = .ok (.iload_n 3, 1) := by decide +kernel
theorem dX12_confused_38 : decode cX12_confused 38 = .ok (.iaload, 1) := by decide +kernel
theorem dX12_confused_39 : decode cX12_confused 39 = .ok (.iconst 2, 1) := by decide +kernel
theorem dX12_confused_40 : decode cX12_confused 40 = .ok (.if_icmp .ne 44, 3) := by decide +kernel
theorem dX12_confused_43 : decode cX12_confused 43 = .ok (.iload_n 2, 1) := by decide +kernel
theorem dX12_confused_44 : decode cX12_confused 44 = .ok (.bipush (-2), 2) := by decide +kernel
theorem dX12_confused_46 : decode cX12_confused 46 = .ok (.if_icmp .eq 36, 3) := by decide +kernel
theorem dX12_confused_49 : decode cX12_confused 49 = .ok (.aload_n 0, 1) := by decide +kernel
theorem dX12_confused_50 : decode cX12_confused 50 = .ok (.aload_n 0, 1) := by decide +kernel
theorem dX12_confused_51 : decode cX12_confused 51 = .ok (.getfield 9, 3) := by decide +kernel
theorem dX12_confused_54 : decode cX12_confused 54 = .ok (.aload_n 0, 1) := by decide +kernel
theorem dX12_confused_55 : decode cX12_confused 55 = .ok (.getfield 20, 3) := by decide +kernel
theorem dX12_confused_58 : decode cX12_confused 58 = .ok (.iload_n 1, 1) := by decide +kernel
theorem dX12_confused_59 : decode cX12_confused 59 = .ok (.iaload, 1) := by decide +kernel
theorem dX12_confused_60 : decode cX12_confused 60 = .ok (.iload_n 3, 1) := by decide +kernel
theorem dX12_confused_61 : decode cX12_confused 61 = .ok (.invokevirtual 258, 3) := by decide +kernel
theorem dX12_confused_64 : decode cX12_confused 64 = .ok (.aload_n 0, 1) := by decide +kernel
theorem dX12_confused_65 : decode cX12_confused 65 = .ok (.aload_n 0, 1) := by decide +kernel
theorem dX12_confused_66 : decode cX12_confused 66 = .ok (.getfield 9, 3) := by decide +kernel
theorem dX12_confused_69 : decode cX12_confused 69 = .ok (.aload_n 0, 1) := by decide +kernel
theorem dX12_confused_70 : decode cX12_confused 70 = .ok (.getfield 20, 3) := by decide +kernel
theorem dX12_confused_73 : decode cX12_confused 73 = .ok (.iload_n 1, 1) := by decide +kernel
theorem dX12_confused_74 : decode cX12_confused 74 = .ok (.iaload, 1) := by decide +kernel
theorem dX12_confused_75 : decode cX12_confused 75 = .ok (.iload_n 2, 1) := by decide +kernel
theorem dX12_confused_76 : decode cX12_confused 76 = .ok (.invokevirtual 258, 3) := by decide +kernel
theorem dX12_confused_79 : decode cX12_confused 79 = .ok (.if_icmp .le 5, 3) := by decide +kernel
theorem dX12_confused_82 : decode cX12_confused 82 = .ok (.iload_n 3, 1) := by decide +kernel
theorem dX12_confused_83 : decode cX12_confused 83 = .ok (.istore_n 2, 1) := by decide +kernel
theorem dX12_confused_84 : decode cX12_confused 84 = .ok (.iinc 3 1, 3) := by decide +kernel
theorem dX12_confused_87 : decode cX12_confused 87 = .ok (.goto (-67), 3) := by decide +kernel
theorem dX12_confused_90 : decode cX12_confused 90 = .ok (.iload_n 2, 1) := by decide +kernel
theorem dX12_confused_91 : decode cX12_confused 91 = .ok (.bipush (-2), 2) := by decide +kernel
theorem dX12_confused_93 : decode cX12_confused 93 = .ok (.if_icmp .ne 6, 3) := by decide +kernel
theorem dX12_confused_96 : decode cX12_confused 96 = .ok (.bipush (-2), 2) := by decide +kernel
theorem dX12_confused_98 : decode cX12_confused 98 = .ok (.ireturn, 1) := by decide +kernel
theorem dX12_confused_99 : decode cX12_confused 99 = .ok (.aload_n 0, 1) := by decide +kernel
theorem dX12_confused_100 : decode cX12_confused 100 = .ok (.iconst 0, 1) := by decide +kernel
theorem dX12_confused_101 : decode cX12_confused 101 = .ok (.putfield 89, 3) := by decide +kernel
theorem dX12_confused_104 : decode cX12_confused 104 = .ok (.aload_n 0, 1) := by decide +kernel
theorem dX12_confused_105 : decode cX12_confused 105 = .ok (.sipush 1000, 3) := by decide +kernel
theorem dX12_confused_108 : decode cX12_confused 108 = .ok (.aload_n 0, 1) := by decide +kernel
theorem dX12_confused_109 : decode cX12_confused 109 = .ok (.aload_n 0, 1) := by decide +kernel
theorem dX12_confused_110 : decode cX12_confused 110 = .ok (.getfield 9, 3) := by decide +kernel
theorem dX12_confused_113 : decode cX12_confused 113 = .ok (.aload_n 0, 1) := by decide +kernel
theorem dX12_confused_114 : decode cX12_confused 114 = .ok (.getfield 20, 3) := by decide +kernel
theorem dX12_confused_117 : decode cX12_confused 117 = .ok (.iload_n 1, 1) := by decide +kernel
theorem dX12_confused_118 : decode cX12_confused 118 = .ok (.iaload, 1) := by decide +kernel
theorem dX12_confused_119 : decode cX12_confused 119 = .ok (.iload_n 2, 1) := by decide +kernel
theorem dX12_confused_120 : decode cX12_confused 120 = .ok (.invokevirtual 258, 3) := by decide +kernel
theorem dX12_confused_123 : decode cX12_confused 123 = .ok (.invokestatic 296, 3) := by decide +kernel
theorem dX12_confused_126 : decode cX12_confused 126 = .ok (.iadd, 1) := by decide +kernel
theorem dX12_confused_127 : decode cX12_confused 127 = .ok (.i2l, 1) := by decide +kernel
theorem dX12_confused_128 : decode cX12_confused 128 = .ok (.invokevirtual 280, 3) := by decide +kernel
theorem dX12_confused_131 : decode cX12_confused 131 = .ok (.aload_n 0, 1) := by decide +kernel
theorem dX12_confused_132 : decode cX12_confused 132 = .ok (.sipush 1000, 3) := by decide +kernel
theorem dX12_confused_135 : decode cX12_confused 135 = .ok (.aload_n 0, 1) := by decide +kernel
theorem dX12_confused_136 : decode cX12_confused 136 = .ok (.aload_n 0, 1) := by decide +kernel
theorem dX12_confused_137 : decode cX12_confused 137 = .ok (.getfield 9, 3) := by decide +kernel
theorem dX12_confused_140 : decode cX12_confused 140 = .ok (.aload_n 0, 1) := by decide +kernel
theorem dX12_confused_141 : decode cX12_confused 141 = .ok (.getfield 20, 3) := by decide +kernel
theorem dX12_confused_144 : decode cX12_confused 144 = .ok (.iload_n 1, 1) := by decide +kernel
theorem dX12_confused_145 : decode cX12_confused 145 = .ok (.iaload, 1) := by decide +kernel
theorem dX12_confused_146 : decode cX12_confused 146 = .ok (.iload_n 1, 1) := by decide +kernel
theorem dX12_confused_147 : decode cX12_confused 147 = .ok (.invokevirtual 258, 3) := by decide +kernel
theorem dX12_confused_150 : decode cX12_confused 150 = .ok (.invokestatic 296, 3) := by decide +kernel
theorem dX12_confused_153 : decode cX12_confused 153 = .ok (.iadd, 1) := by decide +kernel
theorem dX12_confused_154 : decode cX12_confused 154 = .ok (.i2l, 1) := by decide +kernel
theorem dX12_confused_155 : decode cX12_confused 155 = .ok (.invokevirtual 280, 3) := by decide +kernel
theorem dX12_confused_158 : decode cX12_confused 158 = .ok (.iload_n 2, 1) := by decide +kernel
theorem dX12_confused_159 : decode cX12_confused 159 = .ok (.ireturn, 1) := by decide +kernel
def fX12_confused_L20 (x1 : Int32) : Nat → Int32 → Int32 → zM → Option (Int32 × zM)
  | 0, _, _, _ => none
  | n + 1, x2, x3, M => if (M.1 36 1) ≤ x3 then (
    some (x2, M))
    else (
    (if x3 = x1 then (
    some (x2, M))
    else (
    if zin x3 26 then (
    if (M.1 37 x3.toNatClampNeg) = 2 then (
    zj (fun (M_82 : zM) =>
    some (x3, M_82))
    fun J4 =>
    if x2 = (-2) then (
    J4 M)
    else (
    if zin x1 8 then (
    (fX12_matchOf 37 (M.1 38 x1.toNatClampNeg) x3 M).bind fun (q : Int32 × zM) => zp q fun r6 M61 =>
    (fX12_matchOf 37 (M61.1 38 x1.toNatClampNeg) x2 M61).bind fun (q : Int32 × zM) => zp q fun r7 M76 =>
    if r6 ≤ r7 then (
    some (x2, M76))
    else (
    J4 M76)) else none))
    else (
    some (x2, M))) else none) : Option (Int32 × zM)).bind fun (q : Int32 × zM) => zp q fun x2_84 M_84 =>
    fX12_confused_L20 x1 n x2_84 (x3 + 1) M_84)
def fX12_confused (x1 : Int32) (M : zM) : Option (Int32 × zM) := zlet (zSI M 36 12 0) fun (M2 : zM) =>
  if (fX12_isThing x1 M2) = 0 then (
  some ((-1), M2))
  else (
  (fX12_confused_L20 x1 4000 (-2) 0 M2).bind fun (q : Int32 × zM) => zp q fun x2_90 M_90 =>
  if x2_90 = (-2) then (
  some ((-2), M_90))
  else (
  zlet (zSI M_90 36 11 0) fun (M101 : zM) =>
  if zin x1 8 then (
  (fX12_matchOf 37 (M101.1 38 x1.toNatClampNeg) x2_90 M101).bind fun (q : Int32 × zM) => zp q fun r9 M120 =>
  (fX12_tell ((1000 + (fX12_put r9)).toInt64) M120).bind fun (M128 : zM) =>
  (fX12_matchOf 37 (M128.1 38 x1.toNatClampNeg) x1 M128).bind fun (q : Int32 × zM) => zp q fun r12 M147 =>
  (fX12_tell ((1000 + (fX12_put r12)).toInt64) M147).bind fun (M155 : zM) =>
  some (x2_90, M155)) else none))
set_option maxHeartbeats 4000000 in
theorem lX12_confused_20 {E : zE} {Γ : zT} {d : Nat} {K1 : (Int32 × zM) → Prop} (hC : Cx E Γ RX12 cX12_confused 4 d) (hd : 106 ≤ d) (x1 : Int32) (hx : ∀ (x2_90 : Int32) (M_90 : zM), K1 (x2_90, M_90) → G E Γ 4 90 [(0, .ref 36), (1, .int x1), (2, .int x2_90)] [] M_90) :
    ∀ (n : Nat) (x2 : Int32) (x3 : Int32) (M : zM), wpO (fX12_confused_L20 x1 n x2 x3 M) K1 → G E Γ 4 20 [(0, .ref 36), (1, .int x1), (2, .int x2), (3, .int x3)] [] M := by
  intro n
  induction n with
  | zero =>
    intro x2 x3 M h
    exact (wpO_0 h).elim
  | succ n ih =>
    intro x2 x3 M h
    rw [fX12_confused_L20.eq_2] at h
    refine g_iload_n (i := 3) (x := x3) hC (dX12_confused_20) rfl rfl ?_
    refine g_aload_n (i := 0) (x := 36) hC (dX12_confused_21) rfl rfl ?_
    refine g_getI hC flX12_92 (dX12_confused_22) rfl rfl ?_
    refine g_icmp_ge (tgt := 90) hC (dX12_confused_25) (by decide) (fun c25 => ?_) (fun c25 => ?_)
    · have h := wpO_t c25 h
      refine g_sub (lv' := [(0, .ref 36), (1, .int x1), (2, .int x2)]) [0, 1, 2] rfl ?_
      exact hx _ _ (wpO_s h)
    · have h := wpO_f c25 h
      refine g_iload_n (i := 3) (x := x3) hC (dX12_confused_28) rfl rfl ?_
      refine g_iload_n (i := 1) (x := x1) hC (dX12_confused_29) rfl rfl ?_
      refine wpO_bJ h (fun KJ2 hKJ2 h => ?_)
      have hJ2 : ∀ (x2_84 : Int32) (M_84 : zM), KJ2 (x2_84, M_84) → G E Γ 4 84 [(0, .ref 36), (1, .int x1), (2, .int x2_84), (3, .int x3)] [] M_84 := by
        intro x2_84 M_84 h
        have h := hKJ2 _ h
        have h := wpO_p h
        refine g_iinc (x := x3) (v := (x3 + 1)) (lv2 := [(3, .int (x3 + 1)), (0, .ref 36), (1, .int x1), (2, .int x2_84)]) hC (dX12_confused_84) rfl rfl (by decide) rfl ?_
        refine g_goto (tgt := 20) hC (dX12_confused_87) (by decide) ?_
        refine g_sub (lv' := [(0, .ref 36), (1, .int x1), (2, .int x2_84), (3, .int (x3 + 1))]) [1, 2, 3, 0] rfl ?_
        exact ih _ _ _ h
      refine g_icmp_eq (tgt := 84) hC (dX12_confused_30) (by decide) (fun c30 => ?_) (fun c30 => ?_)
      · have h := wpO_t c30 h
        exact hJ2 _ _ (wpO_s h)
      · have h := wpO_f c30 h
        refine g_aload_n (i := 0) (x := 36) hC (dX12_confused_33) rfl rfl ?_
        refine g_getR (r := 37) hC flX12_9 (dX12_confused_34) rfl rfl rfl ?_
        refine g_iload_n (i := 3) (x := x3) hC (dX12_confused_37) rfl rfl ?_
        obtain ⟨q3, h⟩ := wpO_g h
        refine g_iaload (n := 26) hC (dX12_confused_38) rfl q3 ?_
        refine g_iconst (v := 2) hC (dX12_confused_39) kc_2 ?_
        refine g_icmp_ne (tgt := 84) hC (dX12_confused_40) (by decide) (fun c40 => ?_) (fun c40 => ?_)
        · have h := wpO_f c40 h
          exact hJ2 _ _ (wpO_s h)
        · have h := wpO_t c40 h
          refine g_iload_n (i := 2) (x := x2) hC (dX12_confused_43) rfl rfl ?_
          refine g_bipush (v := (-2)) hC (dX12_confused_44) kb_m2 ?_
          refine wpO_j h (fun J4 hkJ4 h => ?_)
          have hJ4 : ∀ (M_82 : zM), wpO (J4 M_82) KJ2 → G E Γ 4 82 [(0, .ref 36), (1, .int x1), (3, .int x3)] [] M_82 := by
            intro M_82 h
            have h := hkJ4 _ h
            refine g_iload_n (i := 3) (x := x3) hC (dX12_confused_82) rfl rfl ?_
            refine g_istore_n (i := 2) (lv2 := [(2, .int x3), (0, .ref 36), (1, .int x1), (3, .int x3)]) hC (dX12_confused_83) rfl (by decide) rfl ?_
            refine g_sub (lv' := [(0, .ref 36), (1, .int x1), (2, .int x3), (3, .int x3)]) [1, 2, 0, 3] rfl ?_
            exact hJ2 _ _ (wpO_s h)
          refine g_icmp_eq (tgt := 82) hC (dX12_confused_46) (by decide) (fun c46 => ?_) (fun c46 => ?_)
          · have h := wpO_t c46 h
            refine g_sub (lv' := [(0, .ref 36), (1, .int x1), (3, .int x3)]) [0, 1, 3] rfl ?_
            exact hJ4 _ h
          · have h := wpO_f c46 h
            refine g_aload_n (i := 0) (x := 36) hC (dX12_confused_49) rfl rfl ?_
            refine g_aload_n (i := 0) (x := 36) hC (dX12_confused_50) rfl rfl ?_
            refine g_getR (r := 37) hC flX12_9 (dX12_confused_51) rfl rfl rfl ?_
            refine g_aload_n (i := 0) (x := 36) hC (dX12_confused_54) rfl rfl ?_
            refine g_getR (r := 38) hC flX12_20 (dX12_confused_55) rfl rfl rfl ?_
            refine g_iload_n (i := 1) (x := x1) hC (dX12_confused_58) rfl rfl ?_
            obtain ⟨q5, h⟩ := wpO_g h
            refine g_iaload (n := 8) hC (dX12_confused_59) rfl q5 ?_
            refine g_iload_n (i := 3) (x := x3) hC (dX12_confused_60) rfl rfl ?_
            have h := wpO_b h
            refine g_callVi ([.ref 37, .int (M.1 38 x1.toNatClampNeg), .int x3]) hC wvX12_258 (dX12_confused_61) rfl rfl (by omega) (Nat.le_of_ble_eq_true rfl) (cX12_matchOf_ok (by omega) 37 (M.1 38 x1.toNatClampNeg) x3 M h) (fun r6 M61 h => ?_)
            have h := wpO_p h
            refine g_aload_n (i := 0) (x := 36) hC (dX12_confused_64) rfl rfl ?_
            refine g_aload_n (i := 0) (x := 36) hC (dX12_confused_65) rfl rfl ?_
            refine g_getR (r := 37) hC flX12_9 (dX12_confused_66) rfl rfl rfl ?_
            refine g_aload_n (i := 0) (x := 36) hC (dX12_confused_69) rfl rfl ?_
            refine g_getR (r := 38) hC flX12_20 (dX12_confused_70) rfl rfl rfl ?_
            refine g_iload_n (i := 1) (x := x1) hC (dX12_confused_73) rfl rfl ?_
            refine g_iaload (n := 8) hC (dX12_confused_74) rfl q5 ?_
            refine g_iload_n (i := 2) (x := x2) hC (dX12_confused_75) rfl rfl ?_
            have h := wpO_b h
            refine g_callVi ([.ref 37, .int (M61.1 38 x1.toNatClampNeg), .int x2]) hC wvX12_258 (dX12_confused_76) rfl rfl (by omega) (Nat.le_of_ble_eq_true rfl) (cX12_matchOf_ok (by omega) 37 (M61.1 38 x1.toNatClampNeg) x2 M61 h) (fun r7 M76 h => ?_)
            have h := wpO_p h
            refine g_icmp_le (tgt := 84) hC (dX12_confused_79) (by decide) (fun c79 => ?_) (fun c79 => ?_)
            · have h := wpO_t c79 h
              exact hJ2 _ _ (wpO_s h)
            · have h := wpO_f c79 h
              refine g_sub (lv' := [(0, .ref 36), (1, .int x1), (3, .int x3)]) [0, 1, 3] rfl ?_
              exact hJ4 _ h
set_option maxHeartbeats 4000000 in
theorem cX12_confused_ok {E : zE} {d : Nat} (hd : 106 ≤ d) (x1 : Int32) (M : zM) {K : (Int32 × zM) → Prop} (h : wpO (fX12_confused x1 M) K) : CMi E d yX12_confused cX12_confused 4 (some .int) [.ref 36, .int x1] M (fun r N => K (r, N)) := by
  refine CMi.of (by decide) (Nat.le_of_ble_eq_true rfl) (fun Γ hC hr => ?_)
  have hC : Cx E Γ RX12 cX12_confused 4 d := hC
  show G E Γ 4 0 [(0, .ref 36), (1, .int x1)] [] M
  unfold fX12_confused at h
  refine g_aload_n (i := 0) (x := 36) hC (dX12_confused_0) rfl rfl ?_
  refine g_iconst (v := 0) hC (dX12_confused_1) kc_0 ?_
  refine g_putI hC fpX12_86 (dX12_confused_2) rfl rfl rfl rfl ?_
  refine g_nmM (fun M2 e_M2 => ?_)
  have h := wpO_n e_M2 h
  refine g_aload_n (i := 0) (x := 36) hC (dX12_confused_5) rfl rfl ?_
  refine g_iload_n (i := 1) (x := x1) hC (dX12_confused_6) rfl rfl ?_
  refine g_callVi ([.int x1]) hC wvX12_220 (dX12_confused_7) rfl rfl (by omega) (Nat.le_of_ble_eq_true rfl) (cX12_isThing_ok (by omega) x1 M2 (K := fun r => r = fX12_isThing x1 M2) rfl) (fun r N q => ?_)
  obtain ⟨rfl, rfl⟩ := q
  refine g_if_ne (tgt := 15) hC (dX12_confused_10) (by decide) (fun c10 => ?_) (fun c10 => ?_)
  · have h := wpO_f c10 h
    refine g_bipush (v := (-2)) hC (dX12_confused_15) kb_m2 ?_
    refine g_istore_n (i := 2) (lv2 := [(2, .int (-2)), (0, .ref 36), (1, .int x1)]) hC (dX12_confused_17) rfl (by decide) rfl ?_
    refine g_iconst (v := 0) hC (dX12_confused_18) kc_0 ?_
    refine g_istore_n (i := 3) (lv2 := [(3, .int 0), (2, .int (-2)), (0, .ref 36), (1, .int x1)]) hC (dX12_confused_19) rfl (by decide) rfl ?_
    refine g_sub (lv' := [(0, .ref 36), (1, .int x1), (2, .int (-2)), (3, .int 0)]) [2, 3, 1, 0] rfl ?_
    refine wpO_bJ h (fun KL20 hKL20 h => ?_)
    refine lX12_confused_20 (K1 := KL20) hC (by omega) x1 (fun x2_90 M_90 h => ?_) _ _ _ _ h
    have h := hKL20 _ h
    have h := wpO_p h
    refine g_iload_n (i := 2) (x := x2_90) hC (dX12_confused_90) rfl rfl ?_
    refine g_bipush (v := (-2)) hC (dX12_confused_91) kb_m2 ?_
    refine g_icmp_ne (tgt := 99) hC (dX12_confused_93) (by decide) (fun c93 => ?_) (fun c93 => ?_)
    · have h := wpO_f c93 h
      refine g_aload_n (i := 0) (x := 36) hC (dX12_confused_99) rfl rfl ?_
      refine g_iconst (v := 0) hC (dX12_confused_100) kc_0 ?_
      refine g_putI hC fpX12_89 (dX12_confused_101) rfl rfl rfl rfl ?_
      refine g_nmM (fun M101 e_M101 => ?_)
      have h := wpO_n e_M101 h
      refine g_aload_n (i := 0) (x := 36) hC (dX12_confused_104) rfl rfl ?_
      refine g_sipush (v := 1000) hC (dX12_confused_105) ks_1000 ?_
      refine g_aload_n (i := 0) (x := 36) hC (dX12_confused_108) rfl rfl ?_
      refine g_aload_n (i := 0) (x := 36) hC (dX12_confused_109) rfl rfl ?_
      refine g_getR (r := 37) hC flX12_9 (dX12_confused_110) rfl rfl rfl ?_
      refine g_aload_n (i := 0) (x := 36) hC (dX12_confused_113) rfl rfl ?_
      refine g_getR (r := 38) hC flX12_20 (dX12_confused_114) rfl rfl rfl ?_
      refine g_iload_n (i := 1) (x := x1) hC (dX12_confused_117) rfl rfl ?_
      obtain ⟨q8, h⟩ := wpO_g h
      refine g_iaload (n := 8) hC (dX12_confused_118) rfl q8 ?_
      refine g_iload_n (i := 2) (x := x2_90) hC (dX12_confused_119) rfl rfl ?_
      have h := wpO_b h
      refine g_callVi ([.ref 37, .int (M101.1 38 x1.toNatClampNeg), .int x2_90]) hC wvX12_258 (dX12_confused_120) rfl rfl (by omega) (Nat.le_of_ble_eq_true rfl) (cX12_matchOf_ok (by omega) 37 (M101.1 38 x1.toNatClampNeg) x2_90 M101 h) (fun r9 M120 h => ?_)
      have h := wpO_p h
      refine g_callSi ([.int r9]) hC wsX12_296 (dX12_confused_123) rfl (by omega) (Nat.le_of_ble_eq_true rfl) (cX12_put_ok (by omega) r9 M120 (K := fun r => r = fX12_put r9) rfl) (fun r N q => ?_)
      obtain ⟨rfl, rfl⟩ := q
      refine g_iadd hC (dX12_confused_126) ?_
      refine g_i2l hC (dX12_confused_127) ?_
      have h := wpO_b h
      refine g_callVv ([.long ((1000 + (fX12_put r9)).toInt64)]) hC wvX12_280 (dX12_confused_128) rfl rfl (by omega) (Nat.le_of_ble_eq_true rfl) (cX12_tell_ok (by omega) ((1000 + (fX12_put r9)).toInt64) M120 h) (fun M128 h => ?_)
      refine g_aload_n (i := 0) (x := 36) hC (dX12_confused_131) rfl rfl ?_
      refine g_sipush (v := 1000) hC (dX12_confused_132) ks_1000 ?_
      refine g_aload_n (i := 0) (x := 36) hC (dX12_confused_135) rfl rfl ?_
      refine g_aload_n (i := 0) (x := 36) hC (dX12_confused_136) rfl rfl ?_
      refine g_getR (r := 37) hC flX12_9 (dX12_confused_137) rfl rfl rfl ?_
      refine g_aload_n (i := 0) (x := 36) hC (dX12_confused_140) rfl rfl ?_
      refine g_getR (r := 38) hC flX12_20 (dX12_confused_141) rfl rfl rfl ?_
      refine g_iload_n (i := 1) (x := x1) hC (dX12_confused_144) rfl rfl ?_
      refine g_iaload (n := 8) hC (dX12_confused_145) rfl q8 ?_
      refine g_iload_n (i := 1) (x := x1) hC (dX12_confused_146) rfl rfl ?_
      have h := wpO_b h
      refine g_callVi ([.ref 37, .int (M128.1 38 x1.toNatClampNeg), .int x1]) hC wvX12_258 (dX12_confused_147) rfl rfl (by omega) (Nat.le_of_ble_eq_true rfl) (cX12_matchOf_ok (by omega) 37 (M128.1 38 x1.toNatClampNeg) x1 M128 h) (fun r12 M147 h => ?_)
      have h := wpO_p h
      refine g_callSi ([.int r12]) hC wsX12_296 (dX12_confused_150) rfl (by omega) (Nat.le_of_ble_eq_true rfl) (cX12_put_ok (by omega) r12 M147 (K := fun r => r = fX12_put r12) rfl) (fun r N q => ?_)
      obtain ⟨rfl, rfl⟩ := q
      refine g_iadd hC (dX12_confused_153) ?_
      refine g_i2l hC (dX12_confused_154) ?_
      have h := wpO_b h
      refine g_callVv ([.long ((1000 + (fX12_put r12)).toInt64)]) hC wvX12_280 (dX12_confused_155) rfl rfl (by omega) (Nat.le_of_ble_eq_true rfl) (cX12_tell_ok (by omega) ((1000 + (fX12_put r12)).toInt64) M147 h) (fun M155 h => ?_)
      refine g_iload_n (i := 2) (x := x2_90) hC (dX12_confused_158) rfl rfl ?_
      refine g_ireturn hC hr (dX12_confused_159) ?_
      exact wpO_s h
    · have h := wpO_t c93 h
      refine g_bipush (v := (-2)) hC (dX12_confused_96) kb_m2 ?_
      refine g_ireturn hC hr (dX12_confused_98) ?_
      exact wpO_s h
  · have h := wpO_t c10 h
    refine g_iconst (v := (-1)) hC (dX12_confused_13) kc_m1 ?_
    refine g_ireturn hC hr (dX12_confused_14) ?_
    exact wpO_s h
/-! LostByStateModel.regains(I)I -/
theorem dX12_regains_0 : decode cX12_regains 0 = .ok (.aload_n 0, 1) := by decide +kernel
theorem dX12_regains_1 : decode cX12_regains 1 = .ok (.iconst 0, 1) := by decide +kernel
theorem dX12_regains_2 : decode cX12_regains 2 = .ok (.putfield 86, 3) := by decide +kernel
theorem dX12_regains_5 : decode cX12_regains 5 = .ok (.aload_n 0, 1) := by decide +kernel
theorem dX12_regains_6 : decode cX12_regains 6 = .ok (.iload_n 1, 1) := by decide +kernel
theorem dX12_regains_7 : decode cX12_regains 7 = .ok (.invokevirtual 230, 3) := by decide +kernel
theorem dX12_regains_10 : decode cX12_regains 10 = .ok (.ifCond .ne 5, 3) := by decide +kernel
theorem dX12_regains_13 : decode cX12_regains 13 = .ok (.iconst (-1), 1) := by decide +kernel
theorem dX12_regains_14 : decode cX12_regains 14 = .ok (.ireturn, 1) := by decide +kernel
theorem dX12_regains_15 : decode cX12_regains 15 = .ok (.aload_n 0, 1) := by decide +kernel
theorem dX12_regains_16 : decode cX12_regains 16 = .ok (.iconst 0, 1) := by decide +kernel
theorem dX12_regains_17 : decode cX12_regains 17 = .ok (.putfield 89, 3) := by decide +kernel
theorem dX12_regains_20 : decode cX12_regains 20 = .ok (.aload_n 0, 1) := by decide +kernel
theorem dX12_regains_21 : decode cX12_regains 21 = .ok (.aload_n 0, 1) := by decide +kernel
theorem dX12_regains_22 : decode cX12_regains 22 = .ok (.getfield 26, 3) := by decide +kernel
theorem dX12_regains_25 : decode cX12_regains 25 = .ok (.iload_n 1, 1) := by decide +kernel
theorem dX12_regains_26 : decode cX12_regains 26 = .ok (.iaload, 1) := by decide +kernel
theorem dX12_regains_27 : decode cX12_regains 27 = .ok (.aload_n 0, 1) := by decide +kernel
theorem dX12_regains_28 : decode cX12_regains 28 = .ok (.aload_n 0, 1) := by decide +kernel
theorem dX12_regains_29 : decode cX12_regains 29 = .ok (.getfield 9, 3) := by decide +kernel
theorem dX12_regains_32 : decode cX12_regains 32 = .ok (.iconst 1, 1) := by decide +kernel
theorem dX12_regains_33 : decode cX12_regains 33 = .ok (.invokevirtual 209, 3) := by decide +kernel
theorem dX12_regains_36 : decode cX12_regains 36 = .ok (.iand, 1) := by decide +kernel
theorem dX12_regains_37 : decode cX12_regains 37 = .ok (.i2l, 1) := by decide +kernel
theorem dX12_regains_38 : decode cX12_regains 38 = .ok (.invokevirtual 280, 3) := by decide +kernel
theorem dX12_regains_41 : decode cX12_regains 41 = .ok (.aload_n 0, 1) := by decide +kernel
theorem dX12_regains_42 : decode cX12_regains 42 = .ok (.aload_n 0, 1) := by decide +kernel
theorem dX12_regains_43 : decode cX12_regains 43 = .ok (.getfield 26, 3) := by decide +kernel
theorem dX12_regains_46 : decode cX12_regains 46 = .ok (.iload_n 1, 1) := by decide +kernel
theorem dX12_regains_47 : decode cX12_regains 47 = .ok (.iaload, 1) := by decide +kernel
theorem dX12_regains_48 : decode cX12_regains 48 = .ok (.aload_n 0, 1) := by decide +kernel
theorem dX12_regains_49 : decode cX12_regains 49 = .ok (.aload_n 0, 1) := by decide +kernel
theorem dX12_regains_50 : decode cX12_regains 50 = .ok (.getfield 9, 3) := by decide +kernel
theorem dX12_regains_53 : decode cX12_regains 53 = .ok (.invokevirtual 306, 3) := by decide +kernel
theorem dX12_regains_56 : decode cX12_regains 56 = .ok (.iand, 1) := by decide +kernel
theorem dX12_regains_57 : decode cX12_regains 57 = .ok (.i2l, 1) := by decide +kernel
theorem dX12_regains_58 : decode cX12_regains 58 = .ok (.invokevirtual 280, 3) := by decide +kernel
theorem dX12_regains_61 : decode cX12_regains 61 = .ok (.aload_n 0, 1) := by decide +kernel
theorem dX12_regains_62 : decode cX12_regains 62 = .ok (.aload_n 0, 1) := by decide +kernel
theorem dX12_regains_63 : decode cX12_regains 63 = .ok (.aload_n 0, 1) := by decide +kernel
theorem dX12_regains_64 : decode cX12_regains 64 = .ok (.getfield 26, 3) := by decide +kernel
theorem dX12_regains_67 : decode cX12_regains 67 = .ok (.iload_n 1, 1) := by decide +kernel
theorem dX12_regains_68 : decode cX12_regains 68 = .ok (.iaload, 1) := by decide +kernel
theorem dX12_regains_69 : decode cX12_regains 69 = .ok (.aload_n 0, 1) := by decide +kernel
theorem dX12_regains_70 : decode cX12_regains 70 = .ok (.aload_n 0, 1) := by decide +kernel
theorem dX12_regains_71 : decode cX12_regains 71 = .ok (.getfield 9, 3) := by decide +kernel
theorem dX12_regains_74 : decode cX12_regains 74 = .ok (.bipush 6, 2) := by decide +kernel
theorem dX12_regains_76 : decode cX12_regains 76 = .ok (.invokevirtual 213, 3) := by decide +kernel
theorem dX12_regains_79 : decode cX12_regains 79 = .ok (.iconst (-1), 1) := by decide +kernel
theorem dX12_regains_80 : decode cX12_regains 80 = .ok (.ixor, 1) := by decide +kernel
theorem dX12_regains_81 : decode cX12_regains 81 = .ok (.iand, 1) := by decide +kernel
theorem dX12_regains_82 : decode cX12_regains 82 = .ok (.invokevirtual 236, 3) := by decide +kernel
theorem dX12_regains_85 : decode cX12_regains 85 = .ok (.i2l, 1) := by decide +kernel
theorem dX12_regains_86 : decode cX12_regains 86 = .ok (.invokevirtual 280, 3) := by decide +kernel
theorem dX12_regains_89 : decode cX12_regains 89 = .ok (.aload_n 0, 1) := by decide +kernel
theorem dX12_regains_90 : decode cX12_regains 90 = .ok (.getfield 26, 3) := by decide +kernel
theorem dX12_regains_93 : decode cX12_regains 93 = .ok (.iload_n 1, 1) := by decide +kernel
theorem dX12_regains_94 : decode cX12_regains 94 = .ok (.iaload, 1) := by decide +kernel
theorem dX12_regains_95 : decode cX12_regains 95 = .ok (.aload_n 0, 1) := by decide +kernel
theorem dX12_regains_96 : decode cX12_regains 96 = .ok (.aload_n 0, 1) := by decide +kernel
theorem dX12_regains_97 : decode cX12_regains 97 = .ok (.getfield 9, 3) := by decide +kernel
theorem dX12_regains_100 : decode cX12_regains 100 = .ok (.iconst 2, 1) := by decide +kernel
theorem dX12_regains_101 : decode cX12_regains 101 = .ok (.invokevirtual 209, 3) := by decide +kernel
theorem dX12_regains_104 : decode cX12_regains 104 = .ok (.iand, 1) := by decide +kernel
theorem dX12_regains_105 : decode cX12_regains 105 = .ok (.ireturn, 1) := by decide +kernel
def fX12_regains (x1 : Int32) (M : zM) : Option (Int32 × zM) := zlet (zSI M 36 12 0) fun (M2 : zM) =>
  if (fX12_isDeed x1 M2) = 0 then (
  some ((-1), M2))
  else (
  zlet (zSI M2 36 11 0) fun (M17 : zM) =>
  if zin x1 6 then (
  (fX12_those 37 1 M17).bind fun (r3 : Int32) =>
  (fX12_tell (((M17.1 40 x1.toNatClampNeg) &&& r3).toInt64) M17).bind fun (M38 : zM) =>
  (fX12_byPeople 37 M38).bind fun (r5 : Int32) =>
  (fX12_tell (((M38.1 40 x1.toNatClampNeg) &&& r5).toInt64) M38).bind fun (M58 : zM) =>
  (fX12_hadBy 37 6 M58).bind fun (r7 : Int32) =>
  (fX12_worthOf ((M58.1 40 x1.toNatClampNeg) &&& (r7 ^^^ (-1))) M58).bind fun (r8 : Int32) =>
  (fX12_tell r8.toInt64 M58).bind fun (M86 : zM) =>
  (fX12_those 37 2 M86).bind fun (r10 : Int32) =>
  some ((M86.1 40 x1.toNatClampNeg) &&& r10, M86)) else none)
set_option maxHeartbeats 4000000 in
theorem cX12_regains_ok {E : zE} {d : Nat} (hd : 2 ≤ d) (x1 : Int32) (M : zM) {K : (Int32 × zM) → Prop} (h : wpO (fX12_regains x1 M) K) : CMi E d yX12_regains cX12_regains 2 (some .int) [.ref 36, .int x1] M (fun r N => K (r, N)) := by
  refine CMi.of (by decide) (Nat.le_of_ble_eq_true rfl) (fun Γ hC hr => ?_)
  have hC : Cx E Γ RX12 cX12_regains 2 d := hC
  show G E Γ 2 0 [(0, .ref 36), (1, .int x1)] [] M
  unfold fX12_regains at h
  refine g_aload_n (i := 0) (x := 36) hC (dX12_regains_0) rfl rfl ?_
  refine g_iconst (v := 0) hC (dX12_regains_1) kc_0 ?_
  refine g_putI hC fpX12_86 (dX12_regains_2) rfl rfl rfl rfl ?_
  refine g_nmM (fun M2 e_M2 => ?_)
  have h := wpO_n e_M2 h
  refine g_aload_n (i := 0) (x := 36) hC (dX12_regains_5) rfl rfl ?_
  refine g_iload_n (i := 1) (x := x1) hC (dX12_regains_6) rfl rfl ?_
  refine g_callVi ([.int x1]) hC wvX12_230 (dX12_regains_7) rfl rfl (by omega) (Nat.le_of_ble_eq_true rfl) (cX12_isDeed_ok (by omega) x1 M2 (K := fun r => r = fX12_isDeed x1 M2) rfl) (fun r N q => ?_)
  obtain ⟨rfl, rfl⟩ := q
  refine g_if_ne (tgt := 15) hC (dX12_regains_10) (by decide) (fun c10 => ?_) (fun c10 => ?_)
  · have h := wpO_f c10 h
    refine g_aload_n (i := 0) (x := 36) hC (dX12_regains_15) rfl rfl ?_
    refine g_iconst (v := 0) hC (dX12_regains_16) kc_0 ?_
    refine g_putI hC fpX12_89 (dX12_regains_17) rfl rfl rfl rfl ?_
    refine g_nmM (fun M17 e_M17 => ?_)
    have h := wpO_n e_M17 h
    refine g_aload_n (i := 0) (x := 36) hC (dX12_regains_20) rfl rfl ?_
    refine g_aload_n (i := 0) (x := 36) hC (dX12_regains_21) rfl rfl ?_
    refine g_getR (r := 40) hC flX12_26 (dX12_regains_22) rfl rfl rfl ?_
    refine g_iload_n (i := 1) (x := x1) hC (dX12_regains_25) rfl rfl ?_
    obtain ⟨q2, h⟩ := wpO_g h
    refine g_iaload (n := 6) hC (dX12_regains_26) rfl q2 ?_
    refine g_aload_n (i := 0) (x := 36) hC (dX12_regains_27) rfl rfl ?_
    refine g_aload_n (i := 0) (x := 36) hC (dX12_regains_28) rfl rfl ?_
    refine g_getR (r := 37) hC flX12_9 (dX12_regains_29) rfl rfl rfl ?_
    refine g_iconst (v := 1) hC (dX12_regains_32) kc_1 ?_
    have h := wpO_b h
    refine g_callVi ([.ref 37, .int 1]) hC wvX12_209 (dX12_regains_33) rfl rfl (by omega) (Nat.le_of_ble_eq_true rfl) (cX12_those_ok (by omega) 37 1 M17 h) (fun r3 N q => ?_)
    obtain ⟨rfl, h⟩ := q
    refine g_iand hC (dX12_regains_36) ?_
    refine g_i2l hC (dX12_regains_37) ?_
    have h := wpO_b h
    refine g_callVv ([.long (((M17.1 40 x1.toNatClampNeg) &&& r3).toInt64)]) hC wvX12_280 (dX12_regains_38) rfl rfl (by omega) (Nat.le_of_ble_eq_true rfl) (cX12_tell_ok (by omega) (((M17.1 40 x1.toNatClampNeg) &&& r3).toInt64) M17 h) (fun M38 h => ?_)
    refine g_aload_n (i := 0) (x := 36) hC (dX12_regains_41) rfl rfl ?_
    refine g_aload_n (i := 0) (x := 36) hC (dX12_regains_42) rfl rfl ?_
    refine g_getR (r := 40) hC flX12_26 (dX12_regains_43) rfl rfl rfl ?_
    refine g_iload_n (i := 1) (x := x1) hC (dX12_regains_46) rfl rfl ?_
    refine g_iaload (n := 6) hC (dX12_regains_47) rfl q2 ?_
    refine g_aload_n (i := 0) (x := 36) hC (dX12_regains_48) rfl rfl ?_
    refine g_aload_n (i := 0) (x := 36) hC (dX12_regains_49) rfl rfl ?_
    refine g_getR (r := 37) hC flX12_9 (dX12_regains_50) rfl rfl rfl ?_
    have h := wpO_b h
    refine g_callVi ([.ref 37]) hC wvX12_306 (dX12_regains_53) rfl rfl (by omega) (Nat.le_of_ble_eq_true rfl) (cX12_byPeople_ok (by omega) 37 M38 h) (fun r5 N q => ?_)
    obtain ⟨rfl, h⟩ := q
    refine g_iand hC (dX12_regains_56) ?_
    refine g_i2l hC (dX12_regains_57) ?_
    have h := wpO_b h
    refine g_callVv ([.long (((M38.1 40 x1.toNatClampNeg) &&& r5).toInt64)]) hC wvX12_280 (dX12_regains_58) rfl rfl (by omega) (Nat.le_of_ble_eq_true rfl) (cX12_tell_ok (by omega) (((M38.1 40 x1.toNatClampNeg) &&& r5).toInt64) M38 h) (fun M58 h => ?_)
    refine g_aload_n (i := 0) (x := 36) hC (dX12_regains_61) rfl rfl ?_
    refine g_aload_n (i := 0) (x := 36) hC (dX12_regains_62) rfl rfl ?_
    refine g_aload_n (i := 0) (x := 36) hC (dX12_regains_63) rfl rfl ?_
    refine g_getR (r := 40) hC flX12_26 (dX12_regains_64) rfl rfl rfl ?_
    refine g_iload_n (i := 1) (x := x1) hC (dX12_regains_67) rfl rfl ?_
    refine g_iaload (n := 6) hC (dX12_regains_68) rfl q2 ?_
    refine g_aload_n (i := 0) (x := 36) hC (dX12_regains_69) rfl rfl ?_
    refine g_aload_n (i := 0) (x := 36) hC (dX12_regains_70) rfl rfl ?_
    refine g_getR (r := 37) hC flX12_9 (dX12_regains_71) rfl rfl rfl ?_
    refine g_bipush (v := 6) hC (dX12_regains_74) kb_6 ?_
    have h := wpO_b h
    refine g_callVi ([.ref 37, .int 6]) hC wvX12_213 (dX12_regains_76) rfl rfl (by omega) (Nat.le_of_ble_eq_true rfl) (cX12_hadBy_ok (by omega) 37 6 M58 h) (fun r7 N q => ?_)
    obtain ⟨rfl, h⟩ := q
    refine g_iconst (v := (-1)) hC (dX12_regains_79) kc_m1 ?_
    refine g_ixor hC (dX12_regains_80) ?_
    refine g_iand hC (dX12_regains_81) ?_
    have h := wpO_b h
    refine g_callVi ([.int ((M58.1 40 x1.toNatClampNeg) &&& (r7 ^^^ (-1)))]) hC wvX12_236 (dX12_regains_82) rfl rfl (by omega) (Nat.le_of_ble_eq_true rfl) (cX12_worthOf_ok (by omega) ((M58.1 40 x1.toNatClampNeg) &&& (r7 ^^^ (-1))) M58 h) (fun r8 N q => ?_)
    obtain ⟨rfl, h⟩ := q
    refine g_i2l hC (dX12_regains_85) ?_
    have h := wpO_b h
    refine g_callVv ([.long r8.toInt64]) hC wvX12_280 (dX12_regains_86) rfl rfl (by omega) (Nat.le_of_ble_eq_true rfl) (cX12_tell_ok (by omega) r8.toInt64 M58 h) (fun M86 h => ?_)
    refine g_aload_n (i := 0) (x := 36) hC (dX12_regains_89) rfl rfl ?_
    refine g_getR (r := 40) hC flX12_26 (dX12_regains_90) rfl rfl rfl ?_
    refine g_iload_n (i := 1) (x := x1) hC (dX12_regains_93) rfl rfl ?_
    refine g_iaload (n := 6) hC (dX12_regains_94) rfl q2 ?_
    refine g_aload_n (i := 0) (x := 36) hC (dX12_regains_95) rfl rfl ?_
    refine g_aload_n (i := 0) (x := 36) hC (dX12_regains_96) rfl rfl ?_
    refine g_getR (r := 37) hC flX12_9 (dX12_regains_97) rfl rfl rfl ?_
    refine g_iconst (v := 2) hC (dX12_regains_100) kc_2 ?_
    have h := wpO_b h
    refine g_callVi ([.ref 37, .int 2]) hC wvX12_209 (dX12_regains_101) rfl rfl (by omega) (Nat.le_of_ble_eq_true rfl) (cX12_those_ok (by omega) 37 2 M86 h) (fun r10 N q => ?_)
    obtain ⟨rfl, h⟩ := q
    refine g_iand hC (dX12_regains_104) ?_
    refine g_ireturn hC hr (dX12_regains_105) ?_
    exact wpO_s h
  · have h := wpO_t c10 h
    refine g_iconst (v := (-1)) hC (dX12_regains_13) kc_m1 ?_
    refine g_ireturn hC hr (dX12_regains_14) ?_
    exact wpO_s h
/-! LostByStateModel.said(II)I -/
theorem dX12_said_0 : decode cX12_said 0 = .ok (.aload_n 0, 1) := by decide +kernel
theorem dX12_said_1 : decode cX12_said 1 = .ok (.iconst 0, 1) := by decide +kernel
theorem dX12_said_2 : decode cX12_said 2 = .ok (.putfield 86, 3) := by decide +kernel
theorem dX12_said_5 : decode cX12_said 5 = .ok (.iload_n 1, 1) := by decide +kernel
theorem dX12_said_6 : decode cX12_said 6 = .ok (.iconst 0, 1) := by decide +kernel
theorem dX12_said_7 : decode cX12_said 7 = .ok (.bipush 7, 2) := by decide +kernel
theorem dX12_said_9 : decode cX12_said 9 = .ok (.invokestatic 95, 3) := by decide +kernel
theorem dX12_said_12 : decode cX12_said 12 = .ok (.ifCond .eq 21, 3) := by decide +kernel
theorem dX12_said_15 : decode cX12_said 15 = .ok (.iload_n 2, 1) := by decide +kernel
theorem dX12_said_16 : decode cX12_said 16 = .ok (.iconst 0, 1) := by decide +kernel
theorem dX12_said_17 : decode cX12_said 17 = .ok (.iconst 1, 1) := by decide +kernel
theorem dX12_said_18 : decode cX12_said 18 = .ok (.invokestatic 95, 3) := by decide +kernel
theorem dX12_said_21 : decode cX12_said 21 = .ok (.ifCond .eq 12, 3) := by decide +kernel
theorem dX12_said_24 : decode cX12_said 24 = .ok (.aload_n 0, 1) := by decide +kernel
theorem dX12_said_25 : decode cX12_said 25 = .ok (.getfield 309, 3) := by decide +kernel
theorem dX12_said_28 : decode cX12_said 28 = .ok (.bipush 12, 2) := by decide +kernel
theorem dX12_said_30 : decode cX12_said 30 = .ok (.if_icmp .ne 5, 3) := by decide +kernel
theorem dX12_said_33 : decode cX12_said 33 = .ok (.iconst (-1), 1) := by decide +kernel
theorem dX12_said_34 : decode cX12_said 34 = .ok (.ireturn, 1) := by decide +kernel
theorem dX12_said_35 : decode cX12_said 35 = .ok (.aload_n 0, 1) := by decide +kernel
theorem dX12_said_36 : decode cX12_said 36 = .ok (.getfield 64, 3) := by decide +kernel
theorem dX12_said_39 : decode cX12_said 39 = .ok (.aload_n 0, 1) := by decide +kernel
theorem dX12_said_40 : decode cX12_said 40 = .ok (.getfield 309, 3) := by decide +kernel
theorem dX12_said_43 : decode cX12_said 43 = .ok (.iload_n 1, 1) := by decide +kernel
theorem dX12_said_44 : decode cX12_said 44 = .ok (.iastore, 1) := by decide +kernel
theorem dX12_said_45 : decode cX12_said 45 = .ok (.aload_n 0, 1) := by decide +kernel
theorem dX12_said_46 : decode cX12_said 46 = .ok (.aload_n 0, 1) := by decide +kernel
theorem dX12_said_47 : decode cX12_said 47 = .ok (.getfield 312, 3) := by decide +kernel
theorem dX12_said_50 : decode cX12_said 50 = .ok (.iconst 1, 1) := by decide +kernel
theorem dX12_said_51 : decode cX12_said 51 = .ok (.aload_n 0, 1) := by decide +kernel
theorem dX12_said_52 : decode cX12_said 52 = .ok (.getfield 309, 3) := by decide +kernel
theorem dX12_said_55 : decode cX12_said 55 = .ok (.ishl, 1) := by decide +kernel
theorem dX12_said_56 : decode cX12_said 56 = .ok (.iconst (-1), 1) := by decide +kernel
theorem dX12_said_57 : decode cX12_said 57 = .ok (.ixor, 1) := by decide +kernel
theorem dX12_said_58 : decode cX12_said 58 = .ok (.iand, 1) := by decide +kernel
theorem dX12_said_59 : decode cX12_said 59 = .ok (.iload_n 2, 1) := by decide +kernel
theorem dX12_said_60 : decode cX12_said 60 = .ok (.aload_n 0, 1) := by decide +kernel
theorem dX12_said_61 : decode cX12_said 61 = .ok (.getfield 309, 3) := by decide +kernel
theorem dX12_said_64 : decode cX12_said 64 = .ok (.ishl, 1) := by decide +kernel
theorem dX12_said_65 : decode cX12_said 65 = .ok (.ior, 1) := by decide +kernel
theorem dX12_said_66 : decode cX12_said 66 = .ok (.putfield 312, 3) := by decide +kernel
theorem dX12_said_69 : decode cX12_said 69 = .ok (.aload_n 0, 1) := by decide +kernel
theorem dX12_said_70 : decode cX12_said 70 = .ok (.dup, 1) := by decide +kernel
theorem dX12_said_71 : decode cX12_said 71 = .ok (.getfield 309, 3) := by decide +kernel
theorem dX12_said_74 : decode cX12_said 74 = .ok (.iconst 1, 1) := by decide +kernel
theorem dX12_said_75 : decode cX12_said 75 = .ok (.iadd, 1) := by decide +kernel
theorem dX12_said_76 : decode cX12_said 76 = .ok (.putfield 309, 3) := by decide +kernel
theorem dX12_said_79 : decode cX12_said 79 = .ok (.aload_n 0, 1) := by decide +kernel
theorem dX12_said_80 : decode cX12_said 80 = .ok (.getfield 309, 3) := by decide +kernel
theorem dX12_said_83 : decode cX12_said 83 = .ok (.ireturn, 1) := by decide +kernel
def fX12_said (x1 : Int32) (x2 : Int32) (M : zM) : Option (Int32 × zM) := zlet (zSI M 36 12 0) fun (M2 : zM) =>
  if (fX12_in x1 0 7) = 0 then (
  some ((-1), M2))
  else (
  if (fX12_in x2 0 1) = 0 then (
  some ((-1), M2))
  else (
  if (M2.1 36 32) = 12 then (
  some ((-1), M2))
  else (
  if zin (M2.1 36 32) 12 then (
  zlet (zSI M2 52 (M2.1 36 32).toNatClampNeg x1) fun (M44 : zM) =>
  zlet (zSI M44 36 31 (((M44.1 36 31) &&& ((zshl 1 (M44.1 36 32)) ^^^ (-1))) ||| (zshl x2 (M44.1 36 32)))) fun (M66 : zM) =>
  zlet (zSI M66 36 32 ((M66.1 36 32) + 1)) fun (M76 : zM) =>
  some (M76.1 36 32, M76)) else none)))
set_option maxHeartbeats 4000000 in
theorem cX12_said_ok {E : zE} {d : Nat} (hd : 1 ≤ d) (x1 : Int32) (x2 : Int32) (M : zM) {K : (Int32 × zM) → Prop} (h : wpO (fX12_said x1 x2 M) K) : CMi E d yX12_said cX12_said 3 (some .int) [.ref 36, .int x1, .int x2] M (fun r N => K (r, N)) := by
  refine CMi.of (by decide) (Nat.le_of_ble_eq_true rfl) (fun Γ hC hr => ?_)
  have hC : Cx E Γ RX12 cX12_said 3 d := hC
  show G E Γ 3 0 [(0, .ref 36), (1, .int x1), (2, .int x2)] [] M
  unfold fX12_said at h
  refine g_aload_n (i := 0) (x := 36) hC (dX12_said_0) rfl rfl ?_
  refine g_iconst (v := 0) hC (dX12_said_1) kc_0 ?_
  refine g_putI hC fpX12_86 (dX12_said_2) rfl rfl rfl rfl ?_
  refine g_nmM (fun M2 e_M2 => ?_)
  have h := wpO_n e_M2 h
  refine g_iload_n (i := 1) (x := x1) hC (dX12_said_5) rfl rfl ?_
  refine g_iconst (v := 0) hC (dX12_said_6) kc_0 ?_
  refine g_bipush (v := 7) hC (dX12_said_7) kb_7 ?_
  refine g_callSi ([.int x1, .int 0, .int 7]) hC wsX12_95 (dX12_said_9) rfl (by omega) (Nat.le_of_ble_eq_true rfl) (cX12_in_ok (by omega) x1 0 7 M2 (K := fun r => r = fX12_in x1 0 7) rfl) (fun r N q => ?_)
  obtain ⟨rfl, rfl⟩ := q
  refine g_if_eq (tgt := 33) hC (dX12_said_12) (by decide) (fun c12 => ?_) (fun c12 => ?_)
  · have h := wpO_t c12 h
    refine g_iconst (v := (-1)) hC (dX12_said_33) kc_m1 ?_
    refine g_ireturn hC hr (dX12_said_34) ?_
    exact wpO_s h
  · have h := wpO_f c12 h
    refine g_iload_n (i := 2) (x := x2) hC (dX12_said_15) rfl rfl ?_
    refine g_iconst (v := 0) hC (dX12_said_16) kc_0 ?_
    refine g_iconst (v := 1) hC (dX12_said_17) kc_1 ?_
    refine g_callSi ([.int x2, .int 0, .int 1]) hC wsX12_95 (dX12_said_18) rfl (by omega) (Nat.le_of_ble_eq_true rfl) (cX12_in_ok (by omega) x2 0 1 M2 (K := fun r => r = fX12_in x2 0 1) rfl) (fun r N q => ?_)
    obtain ⟨rfl, rfl⟩ := q
    refine g_if_eq (tgt := 33) hC (dX12_said_21) (by decide) (fun c21 => ?_) (fun c21 => ?_)
    · have h := wpO_t c21 h
      refine g_iconst (v := (-1)) hC (dX12_said_33) kc_m1 ?_
      refine g_ireturn hC hr (dX12_said_34) ?_
      exact wpO_s h
    · have h := wpO_f c21 h
      refine g_aload_n (i := 0) (x := 36) hC (dX12_said_24) rfl rfl ?_
      refine g_getI hC flX12_309 (dX12_said_25) rfl rfl ?_
      refine g_bipush (v := 12) hC (dX12_said_28) kb_12 ?_
      refine g_icmp_ne (tgt := 35) hC (dX12_said_30) (by decide) (fun c30 => ?_) (fun c30 => ?_)
      · have h := wpO_f c30 h
        refine g_aload_n (i := 0) (x := 36) hC (dX12_said_35) rfl rfl ?_
        refine g_getR (r := 52) hC flX12_64 (dX12_said_36) rfl rfl rfl ?_
        refine g_aload_n (i := 0) (x := 36) hC (dX12_said_39) rfl rfl ?_
        refine g_getI hC flX12_309 (dX12_said_40) rfl rfl ?_
        refine g_iload_n (i := 1) (x := x1) hC (dX12_said_43) rfl rfl ?_
        obtain ⟨q3, h⟩ := wpO_g h
        refine g_iastore (n := 12) hC (dX12_said_44) rfl q3 ?_
        refine g_nmM (fun M44 e_M44 => ?_)
        have h := wpO_n e_M44 h
        refine g_aload_n (i := 0) (x := 36) hC (dX12_said_45) rfl rfl ?_
        refine g_aload_n (i := 0) (x := 36) hC (dX12_said_46) rfl rfl ?_
        refine g_getI hC flX12_312 (dX12_said_47) rfl rfl ?_
        refine g_iconst (v := 1) hC (dX12_said_50) kc_1 ?_
        refine g_aload_n (i := 0) (x := 36) hC (dX12_said_51) rfl rfl ?_
        refine g_getI hC flX12_309 (dX12_said_52) rfl rfl ?_
        refine g_ishl hC (dX12_said_55) ?_
        refine g_iconst (v := (-1)) hC (dX12_said_56) kc_m1 ?_
        refine g_ixor hC (dX12_said_57) ?_
        refine g_iand hC (dX12_said_58) ?_
        refine g_iload_n (i := 2) (x := x2) hC (dX12_said_59) rfl rfl ?_
        refine g_aload_n (i := 0) (x := 36) hC (dX12_said_60) rfl rfl ?_
        refine g_getI hC flX12_309 (dX12_said_61) rfl rfl ?_
        refine g_ishl hC (dX12_said_64) ?_
        refine g_ior hC (dX12_said_65) ?_
        refine g_putI hC fpX12_312 (dX12_said_66) rfl rfl rfl rfl ?_
        refine g_nmM (fun M66 e_M66 => ?_)
        have h := wpO_n e_M66 h
        refine g_aload_n (i := 0) (x := 36) hC (dX12_said_69) rfl rfl ?_
        refine g_dup hC (dX12_said_70) rfl ?_
        refine g_getI hC flX12_309 (dX12_said_71) rfl rfl ?_
        refine g_iconst (v := 1) hC (dX12_said_74) kc_1 ?_
        refine g_iadd hC (dX12_said_75) ?_
        refine g_putI hC fpX12_309 (dX12_said_76) rfl rfl rfl rfl ?_
        refine g_nmM (fun M76 e_M76 => ?_)
        have h := wpO_n e_M76 h
        refine g_aload_n (i := 0) (x := 36) hC (dX12_said_79) rfl rfl ?_
        refine g_getI hC flX12_309 (dX12_said_80) rfl rfl ?_
        refine g_ireturn hC hr (dX12_said_83) ?_
        exact wpO_s h
      · have h := wpO_t c30 h
        refine g_iconst (v := (-1)) hC (dX12_said_33) kc_m1 ?_
        refine g_ireturn hC hr (dX12_said_34) ?_
        exact wpO_s h
/-! LostByStateModel.forget()I -/
theorem dX12_forget_0 : decode cX12_forget 0 = .ok (.aload_n 0, 1) := by decide +kernel
theorem dX12_forget_1 : decode cX12_forget 1 = .ok (.iconst 0, 1) := by decide +kernel
theorem dX12_forget_2 : decode cX12_forget 2 = .ok (.putfield 86, 3) := by decide +kernel
theorem dX12_forget_5 : decode cX12_forget 5 = .ok (.aload_n 0, 1) := by decide +kernel
theorem dX12_forget_6 : decode cX12_forget 6 = .ok (.getfield 309, 3) := by decide +kernel
theorem dX12_forget_9 : decode cX12_forget 9 = .ok (.istore_n 1, 1) := by decide +kernel
theorem dX12_forget_10 : decode cX12_forget 10 = .ok (.aload_n 0, 1) := by decide +kernel
theorem dX12_forget_11 : decode cX12_forget 11 = .ok (.iconst 0, 1) := by decide +kernel
theorem dX12_forget_12 : decode cX12_forget 12 = .ok (.putfield 309, 3) := by decide +kernel
theorem dX12_forget_15 : decode cX12_forget 15 = .ok (.iload_n 1, 1) := by decide +kernel
theorem dX12_forget_16 : decode cX12_forget 16 = .ok (.ireturn, 1) := by decide +kernel
def fX12_forget  (M : zM) : Int32 × zM := zlet (zSI M 36 12 0) fun (M2 : zM) =>
  zlet (M2.1 36 32) fun (x1_9 : Int32) =>
  zlet (zSI M2 36 32 0) fun (M12 : zM) =>
  (x1_9, M12)
set_option maxHeartbeats 4000000 in
theorem cX12_forget_ok {E : zE} {d : Nat} (hd : 0 ≤ d)  (M : zM) {K : (Int32 × zM) → Prop} (h : wpI (fX12_forget  M) K) : CMi E d yX12_forget cX12_forget 2 (some .int) [.ref 36] M (fun r N => K (r, N)) := by
  refine CMi.of (by decide) (Nat.le_of_ble_eq_true rfl) (fun Γ hC hr => ?_)
  have hC : Cx E Γ RX12 cX12_forget 2 d := hC
  show G E Γ 2 0 [(0, .ref 36)] [] M
  unfold fX12_forget at h
  refine g_aload_n (i := 0) (x := 36) hC (dX12_forget_0) rfl rfl ?_
  refine g_iconst (v := 0) hC (dX12_forget_1) kc_0 ?_
  refine g_putI hC fpX12_86 (dX12_forget_2) rfl rfl rfl rfl ?_
  refine g_nmM (fun M2 e_M2 => ?_)
  have h := wpI_n e_M2 h
  refine g_aload_n (i := 0) (x := 36) hC (dX12_forget_5) rfl rfl ?_
  refine g_getI hC flX12_309 (dX12_forget_6) rfl rfl ?_
  refine g_nmi (fun x1_9 e_x1_9 => ?_)
  have h := wpI_n e_x1_9 h
  refine g_istore_n (i := 1) (lv2 := [(1, .int x1_9), (0, .ref 36)]) hC (dX12_forget_9) rfl (by decide) rfl ?_
  refine g_aload_n (i := 0) (x := 36) hC (dX12_forget_10) rfl rfl ?_
  refine g_iconst (v := 0) hC (dX12_forget_11) kc_0 ?_
  refine g_putI hC fpX12_309 (dX12_forget_12) rfl rfl rfl rfl ?_
  refine g_nmM (fun M12 e_M12 => ?_)
  have h := wpI_n e_M12 h
  refine g_iload_n (i := 1) (x := x1_9) hC (dX12_forget_15) rfl rfl ?_
  refine g_ireturn hC hr (dX12_forget_16) ?_
  exact wpI_s h
/-! LostByStateModel.fitting()I -/
theorem dX12_fitting_0 : decode cX12_fitting 0 = .ok (.iconst 0, 1) := by decide +kernel
theorem dX12_fitting_1 : decode cX12_fitting 1 = .ok (.istore_n 1, 1) := by decide +kernel
theorem dX12_fitting_2 : decode cX12_fitting 2 = .ok (.iconst 0, 1) := by decide +kernel
theorem dX12_fitting_3 : decode cX12_fitting 3 = .ok (.istore_n 2, 1) := by decide +kernel
theorem dX12_fitting_4 : decode cX12_fitting 4 = .ok (.iload_n 2, 1) := by decide +kernel
theorem dX12_fitting_5 : decode cX12_fitting 5 = .ok (.aload_n 0, 1) := by decide +kernel
theorem dX12_fitting_6 : decode cX12_fitting 6 = .ok (.getfield 92, 3) := by decide +kernel
theorem dX12_fitting_9 : decode cX12_fitting 9 = .ok (.if_icmp .ge 81, 3) := by decide +kernel
theorem dX12_fitting_12 : decode cX12_fitting 12 = .ok (.iconst 1, 1) := by decide +kernel
theorem dX12_fitting_13 : decode cX12_fitting 13 = .ok (.istore_n 3, 1) := by decide +kernel
theorem dX12_fitting_14 : decode cX12_fitting 14 = .ok (.iconst 0, 1) := by decide +kernel
theorem dX12_fitting_15 : decode cX12_fitting 15 = .ok (.istore 4, 2) := by decide +kernel
theorem dX12_fitting_17 : decode cX12_fitting 17 = .ok (.iload 4, 2) := by decide +kernel
theorem dX12_fitting_19 : decode cX12_fitting 19 = .ok (.aload_n 0, 1) := by decide +kernel
theorem dX12_fitting_20 : decode cX12_fitting 20 = .ok (.getfield 309, 3) := by decide +kernel
theorem dX12_fitting_23 : decode cX12_fitting 23 = .ok (.if_icmp .ge 47, 3) := by decide +kernel
theorem dX12_fitting_26 : decode cX12_fitting 26 = .ok (.iload_n 3, 1) := by decide +kernel
theorem dX12_fitting_27 : decode cX12_fitting 27 = .ok (.ifCond .eq 35, 3) := by decide +kernel
theorem dX12_fitting_30 : decode cX12_fitting 30 = .ok (.aload_n 0, 1) := by decide +kernel
theorem dX12_fitting_31 : decode cX12_fitting 31 = .ok (.getfield 20, 3) := by decide +kernel
theorem dX12_fitting_34 : decode cX12_fitting 34 = .ok (.iload_n 2, 1) := by decide +kernel
theorem dX12_fitting_35 : decode cX12_fitting 35 = .ok (.iaload, 1) := by decide +kernel
theorem dX12_fitting_36 : decode cX12_fitting 36 = .ok (.aload_n 0, 1) := by decide +kernel
theorem dX12_fitting_37 : decode cX12_fitting 37 = .ok (.getfield 64, 3) := by decide +kernel
theorem dX12_fitting_40 : decode cX12_fitting 40 = .ok (.iload 4, 2) := by decide +kernel
theorem dX12_fitting_42 : decode cX12_fitting 42 = .ok (.iaload, 1) := by decide +kernel
theorem dX12_fitting_43 : decode cX12_fitting 43 = .ok (.invokestatic 216, 3) := by decide +kernel
theorem dX12_fitting_46 : decode cX12_fitting 46 = .ok (.aload_n 0, 1) := by decide +kernel
theorem dX12_fitting_47 : decode cX12_fitting 47 = .ok (.getfield 312, 3) := by decide +kernel
theorem dX12_fitting_50 : decode cX12_fitting 50 = .ok (.iload 4, 2) := by decide +kernel
theorem dX12_fitting_52 : decode cX12_fitting 52 = .ok (.invokestatic 216, 3) := by decide +kernel
theorem dX12_fitting_55 : decode cX12_fitting 55 = .ok (.if_icmp .ne 7, 3) := by decide +kernel
theorem dX12_fitting_58 : decode cX12_fitting 58 = .ok (.iconst 1, 1) := by decide +kernel
theorem dX12_fitting_59 : decode cX12_fitting 59 = .ok (.goto 4, 3) := by decide +kernel
theorem dX12_fitting_62 : decode cX12_fitting 62 = .ok (.iconst 0, 1) := by decide +kernel
theorem dX12_fitting_63 : decode cX12_fitting 63 = .ok (.istore_n 3, 1) := by decide +kernel
theorem dX12_fitting_64 : decode cX12_fitting 64 = .ok (.iinc 4 1, 3) := by decide +kernel
theorem dX12_fitting_67 : decode cX12_fitting 67 = .ok (.goto (-50), 3) := by decide +kernel
theorem dX12_fitting_70 : decode cX12_fitting 70 = .ok (.iload_n 1, 1) := by decide +kernel
theorem dX12_fitting_71 : decode cX12_fitting 71 = .ok (.iload_n 3, 1) := by decide +kernel
theorem dX12_fitting_72 : decode cX12_fitting 72 = .ok (.ifCond .eq 9, 3) := by decide +kernel
theorem dX12_fitting_75 : decode cX12_fitting 75 = .ok (.iconst 1, 1) := by decide +kernel
theorem dX12_fitting_76 : decode cX12_fitting 76 = .ok (.iload_n 2, 1) := by decide +kernel
theorem dX12_fitting_77 : decode cX12_fitting 77 = .ok (.ishl, 1) := by decide +kernel
theorem dX12_fitting_78 : decode cX12_fitting 78 = .ok (.goto 4, 3) := by decide +kernel
theorem dX12_fitting_81 : decode cX12_fitting 81 = .ok (.iconst 0, 1) := by decide +kernel
theorem dX12_fitting_82 : decode cX12_fitting 82 = .ok (.ior, 1) := by decide +kernel
theorem dX12_fitting_83 : decode cX12_fitting 83 = .ok (.istore_n 1, 1) := by decide +kernel
theorem dX12_fitting_84 : decode cX12_fitting 84 = .ok (.iinc 2 1, 3) := by decide +kernel
theorem dX12_fitting_87 : decode cX12_fitting 87 = .ok (.goto (-83), 3) := by decide +kernel
theorem dX12_fitting_90 : decode cX12_fitting 90 = .ok (.iload_n 1, 1) := by decide +kernel
theorem dX12_fitting_91 : decode cX12_fitting 91 = .ok (.ireturn, 1) := by decide +kernel
def fX12_fitting_L17 (x1 : Int32) (x2 : Int32) (M : zM) : Nat → Int32 → Int32 → Option Int32
  | 0, _, _ => none
  | n + 1, x3, x4 => if (M.1 36 32) ≤ x4 then (
    some x3)
    else (
    (if x3 = 0 then (
    some 0)
    else (
    if zin x2 8 then (
    if zin x4 12 then (
    if (fX12_has (M.1 38 x2.toNatClampNeg) (M.1 52 x4.toNatClampNeg)) = (fX12_has (M.1 36 31) x4) then (
    some 1)
    else (
    some 0)) else none) else none) : Option Int32).bind fun (s0_63 : Int32) =>
    fX12_fitting_L17 x1 x2 M n s0_63 (x4 + 1))
def fX12_fitting_L4 (M : zM) : Nat → Int32 → Int32 → Option Int32
  | 0, _, _ => none
  | n + 1, x1, x2 => if (M.1 36 1) ≤ x2 then (
    some x1)
    else (
    (fX12_fitting_L17 x1 x2 M 4000 1 0).bind fun (x3_70 : Int32) =>
    zlet (if x3_70 = 0 then (
    0)
    else (
    (zshl 1 x2))) fun (s0_82 : Int32) =>
    zlet (x1 ||| s0_82) fun (x1_83 : Int32) =>
    fX12_fitting_L4 M n x1_83 (x2 + 1))
def fX12_fitting  (M : zM) : Option Int32 := (fX12_fitting_L4 M 4000 0 0).bind fun (x1_90 : Int32) =>
  some x1_90
set_option maxHeartbeats 4000000 in
theorem lX12_fitting_17 {E : zE} {Γ : zT} {d : Nat} {K1 : Int32 → Prop} (hC : Cx E Γ RX12 cX12_fitting 5 d) (hd : 1 ≤ d) (x1 : Int32) (x2 : Int32) (M : zM) (hx : ∀ (x3_70 : Int32), K1 x3_70 → G E Γ 5 70 [(0, .ref 36), (1, .int x1), (2, .int x2), (3, .int x3_70)] [] M) :
    ∀ (n : Nat) (x3 : Int32) (x4 : Int32), wpO (fX12_fitting_L17 x1 x2 M n x3 x4) K1 → G E Γ 5 17 [(0, .ref 36), (1, .int x1), (2, .int x2), (3, .int x3), (4, .int x4)] [] M := by
  intro n
  induction n with
  | zero =>
    intro x3 x4 h
    exact (wpO_0 h).elim
  | succ n ih =>
    intro x3 x4 h
    rw [fX12_fitting_L17.eq_2] at h
    refine g_iload (i := 4) (x := x4) hC (dX12_fitting_17) rfl ?_
    refine g_aload_n (i := 0) (x := 36) hC (dX12_fitting_19) rfl rfl ?_
    refine g_getI hC flX12_309 (dX12_fitting_20) rfl rfl ?_
    refine g_icmp_ge (tgt := 70) hC (dX12_fitting_23) (by decide) (fun c23 => ?_) (fun c23 => ?_)
    · have h := wpO_t c23 h
      refine g_sub (lv' := [(0, .ref 36), (1, .int x1), (2, .int x2), (3, .int x3)]) [0, 1, 2, 3] rfl ?_
      exact hx _ (wpO_s h)
    · have h := wpO_f c23 h
      refine g_iload_n (i := 3) (x := x3) hC (dX12_fitting_26) rfl rfl ?_
      refine wpO_bJ h (fun KJ1 hKJ1 h => ?_)
      have hJ1 : ∀ (s0_63 : Int32), KJ1 s0_63 → G E Γ 5 63 [(0, .ref 36), (1, .int x1), (2, .int x2), (4, .int x4)] [.int s0_63] M := by
        intro s0_63 h
        have h := hKJ1 _ h
        refine g_istore_n (i := 3) (lv2 := [(3, .int s0_63), (0, .ref 36), (1, .int x1), (2, .int x2), (4, .int x4)]) hC (dX12_fitting_63) rfl (by decide) rfl ?_
        refine g_iinc (x := x4) (v := (x4 + 1)) (lv2 := [(4, .int (x4 + 1)), (3, .int s0_63), (0, .ref 36), (1, .int x1), (2, .int x2)]) hC (dX12_fitting_64) rfl rfl (by decide) rfl ?_
        refine g_goto (tgt := 17) hC (dX12_fitting_67) (by decide) ?_
        refine g_sub (lv' := [(0, .ref 36), (1, .int x1), (2, .int x2), (3, .int s0_63), (4, .int (x4 + 1))]) [2, 3, 4, 1, 0] rfl ?_
        exact ih _ _ h
      refine g_if_eq (tgt := 62) hC (dX12_fitting_27) (by decide) (fun c27 => ?_) (fun c27 => ?_)
      · have h := wpO_t c27 h
        refine g_iconst (v := 0) hC (dX12_fitting_62) kc_0 ?_
        refine g_sub (lv' := [(0, .ref 36), (1, .int x1), (2, .int x2), (4, .int x4)]) [0, 1, 2, 4] rfl ?_
        exact hJ1 _ (wpO_s h)
      · have h := wpO_f c27 h
        refine g_aload_n (i := 0) (x := 36) hC (dX12_fitting_30) rfl rfl ?_
        refine g_getR (r := 38) hC flX12_20 (dX12_fitting_31) rfl rfl rfl ?_
        refine g_iload_n (i := 2) (x := x2) hC (dX12_fitting_34) rfl rfl ?_
        obtain ⟨q2, h⟩ := wpO_g h
        refine g_iaload (n := 8) hC (dX12_fitting_35) rfl q2 ?_
        refine g_aload_n (i := 0) (x := 36) hC (dX12_fitting_36) rfl rfl ?_
        refine g_getR (r := 52) hC flX12_64 (dX12_fitting_37) rfl rfl rfl ?_
        refine g_iload (i := 4) (x := x4) hC (dX12_fitting_40) rfl ?_
        obtain ⟨q3, h⟩ := wpO_g h
        refine g_iaload (n := 12) hC (dX12_fitting_42) rfl q3 ?_
        refine g_callSi ([.int (M.1 38 x2.toNatClampNeg), .int (M.1 52 x4.toNatClampNeg)]) hC wsX12_216 (dX12_fitting_43) rfl (by omega) (Nat.le_of_ble_eq_true rfl) (cX12_has_ok (by omega) (M.1 38 x2.toNatClampNeg) (M.1 52 x4.toNatClampNeg) M (K := fun r => r = fX12_has (M.1 38 x2.toNatClampNeg) (M.1 52 x4.toNatClampNeg)) rfl) (fun r N q => ?_)
        obtain ⟨rfl, rfl⟩ := q
        refine g_aload_n (i := 0) (x := 36) hC (dX12_fitting_46) rfl rfl ?_
        refine g_getI hC flX12_312 (dX12_fitting_47) rfl rfl ?_
        refine g_iload (i := 4) (x := x4) hC (dX12_fitting_50) rfl ?_
        refine g_callSi ([.int (M.1 36 31), .int x4]) hC wsX12_216 (dX12_fitting_52) rfl (by omega) (Nat.le_of_ble_eq_true rfl) (cX12_has_ok (by omega) (M.1 36 31) x4 M (K := fun r => r = fX12_has (M.1 36 31) x4) rfl) (fun r N q => ?_)
        obtain ⟨rfl, rfl⟩ := q
        refine g_icmp_ne (tgt := 62) hC (dX12_fitting_55) (by decide) (fun c55 => ?_) (fun c55 => ?_)
        · have h := wpO_f c55 h
          refine g_iconst (v := 0) hC (dX12_fitting_62) kc_0 ?_
          refine g_sub (lv' := [(0, .ref 36), (1, .int x1), (2, .int x2), (4, .int x4)]) [0, 1, 2, 4] rfl ?_
          exact hJ1 _ (wpO_s h)
        · have h := wpO_t c55 h
          refine g_iconst (v := 1) hC (dX12_fitting_58) kc_1 ?_
          refine g_goto (tgt := 63) hC (dX12_fitting_59) (by decide) ?_
          refine g_sub (lv' := [(0, .ref 36), (1, .int x1), (2, .int x2), (4, .int x4)]) [0, 1, 2, 4] rfl ?_
          exact hJ1 _ (wpO_s h)
set_option maxHeartbeats 4000000 in
theorem lX12_fitting_4 {E : zE} {Γ : zT} {d : Nat} {K1 : Int32 → Prop} (hC : Cx E Γ RX12 cX12_fitting 5 d) (hd : 1 ≤ d) (M : zM) (hx : ∀ (x1_90 : Int32), K1 x1_90 → G E Γ 5 90 [(1, .int x1_90)] [] M) :
    ∀ (n : Nat) (x1 : Int32) (x2 : Int32), wpO (fX12_fitting_L4 M n x1 x2) K1 → G E Γ 5 4 [(0, .ref 36), (1, .int x1), (2, .int x2)] [] M := by
  intro n
  induction n with
  | zero =>
    intro x1 x2 h
    exact (wpO_0 h).elim
  | succ n ih =>
    intro x1 x2 h
    rw [fX12_fitting_L4.eq_2] at h
    refine g_iload_n (i := 2) (x := x2) hC (dX12_fitting_4) rfl rfl ?_
    refine g_aload_n (i := 0) (x := 36) hC (dX12_fitting_5) rfl rfl ?_
    refine g_getI hC flX12_92 (dX12_fitting_6) rfl rfl ?_
    refine g_icmp_ge (tgt := 90) hC (dX12_fitting_9) (by decide) (fun c9 => ?_) (fun c9 => ?_)
    · have h := wpO_t c9 h
      refine g_sub (lv' := [(1, .int x1)]) [1] rfl ?_
      exact hx _ (wpO_s h)
    · have h := wpO_f c9 h
      refine g_iconst (v := 1) hC (dX12_fitting_12) kc_1 ?_
      refine g_istore_n (i := 3) (lv2 := [(3, .int 1), (0, .ref 36), (1, .int x1), (2, .int x2)]) hC (dX12_fitting_13) rfl (by decide) rfl ?_
      refine g_iconst (v := 0) hC (dX12_fitting_14) kc_0 ?_
      refine g_istore (i := 4) (lv2 := [(4, .int 0), (3, .int 1), (0, .ref 36), (1, .int x1), (2, .int x2)]) hC (dX12_fitting_15) (by decide) rfl ?_
      refine g_sub (lv' := [(0, .ref 36), (1, .int x1), (2, .int x2), (3, .int 1), (4, .int 0)]) [2, 3, 4, 1, 0] rfl ?_
      refine wpO_bJ h (fun KL17 hKL17 h => ?_)
      refine lX12_fitting_17 (K1 := KL17) hC (by omega) x1 x2 M (fun x3_70 h => ?_) _ _ _ h
      have h := hKL17 _ h
      refine g_iload_n (i := 1) (x := x1) hC (dX12_fitting_70) rfl rfl ?_
      refine g_iload_n (i := 3) (x := x3_70) hC (dX12_fitting_71) rfl rfl ?_
      obtain ⟨s0_82, e_s0_82, h⟩ := wpO_l h
      have hJ6 : G E Γ 5 82 [(0, .ref 36), (2, .int x2)] [.int s0_82, .int x1] M := by
        refine g_ior hC (dX12_fitting_82) ?_
        refine g_nmi (fun x1_83 e_x1_83 => ?_)
        have h := wpO_n e_x1_83 h
        refine g_istore_n (i := 1) (lv2 := [(1, .int x1_83), (0, .ref 36), (2, .int x2)]) hC (dX12_fitting_83) rfl (by decide) rfl ?_
        refine g_iinc (x := x2) (v := (x2 + 1)) (lv2 := [(2, .int (x2 + 1)), (1, .int x1_83), (0, .ref 36)]) hC (dX12_fitting_84) rfl rfl (by decide) rfl ?_
        refine g_goto (tgt := 4) hC (dX12_fitting_87) (by decide) ?_
        refine g_sub (lv' := [(0, .ref 36), (1, .int x1_83), (2, .int (x2 + 1))]) [2, 1, 0] rfl ?_
        exact ih _ _ h
      refine g_if_eq (tgt := 81) hC (dX12_fitting_72) (by decide) (fun c72 => ?_) (fun c72 => ?_)
      · rw [if_pos c72] at e_s0_82
        refine g_iconst (v := 0) hC (dX12_fitting_81) kc_0 ?_
        refine g_sub (lv' := [(0, .ref 36), (2, .int x2)]) [0, 2] rfl ?_
        subst e_s0_82
        exact hJ6
      · rw [if_neg c72] at e_s0_82
        refine g_iconst (v := 1) hC (dX12_fitting_75) kc_1 ?_
        refine g_iload_n (i := 2) (x := x2) hC (dX12_fitting_76) rfl rfl ?_
        refine g_ishl hC (dX12_fitting_77) ?_
        refine g_goto (tgt := 82) hC (dX12_fitting_78) (by decide) ?_
        refine g_sub (lv' := [(0, .ref 36), (2, .int x2)]) [0, 2] rfl ?_
        subst e_s0_82
        exact hJ6
set_option maxHeartbeats 4000000 in
theorem cX12_fitting_ok {E : zE} {d : Nat} (hd : 1 ≤ d)  (M : zM) {K : Int32 → Prop} (h : wpO (fX12_fitting  M) K) : CMi E d yX12_fitting cX12_fitting 5 (some .int) [.ref 36] M (fun r N => M = N ∧ K r) := by
  refine CMi.of (by decide) (Nat.le_of_ble_eq_true rfl) (fun Γ hC hr => ?_)
  have hC : Cx E Γ RX12 cX12_fitting 5 d := hC
  show G E Γ 5 0 [(0, .ref 36)] [] M
  unfold fX12_fitting at h
  refine g_iconst (v := 0) hC (dX12_fitting_0) kc_0 ?_
  refine g_istore_n (i := 1) (lv2 := [(1, .int 0), (0, .ref 36)]) hC (dX12_fitting_1) rfl (by decide) rfl ?_
  refine g_iconst (v := 0) hC (dX12_fitting_2) kc_0 ?_
  refine g_istore_n (i := 2) (lv2 := [(2, .int 0), (1, .int 0), (0, .ref 36)]) hC (dX12_fitting_3) rfl (by decide) rfl ?_
  refine g_sub (lv' := [(0, .ref 36), (1, .int 0), (2, .int 0)]) [2, 1, 0] rfl ?_
  refine wpO_bJ h (fun KL4 hKL4 h => ?_)
  refine lX12_fitting_4 (K1 := KL4) hC (by omega) M (fun x1_90 h => ?_) _ _ _ h
  have h := hKL4 _ h
  refine g_iload_n (i := 1) (x := x1_90) hC (dX12_fitting_90) rfl rfl ?_
  refine g_ireturn hC hr (dX12_fitting_91) ?_
  exact ⟨rfl, wpO_s h⟩
/-! LostByStateModel.fits()I -/
theorem dX12_fits_0 : decode cX12_fits 0 = .ok (.aload_n 0, 1) := by decide +kernel
theorem dX12_fits_1 : decode cX12_fits 1 = .ok (.iconst 0, 1) := by decide +kernel
theorem dX12_fits_2 : decode cX12_fits 2 = .ok (.putfield 86, 3) := by decide +kernel
theorem dX12_fits_5 : decode cX12_fits 5 = .ok (.aload_n 0, 1) := by decide +kernel
theorem dX12_fits_6 : decode cX12_fits 6 = .ok (.invokevirtual 315, 3) := by decide +kernel
theorem dX12_fits_9 : decode cX12_fits 9 = .ok (.istore_n 1, 1) := by decide +kernel
theorem dX12_fits_10 : decode cX12_fits 10 = .ok (.sipush 255, 3) := by decide +kernel
theorem dX12_fits_13 : decode cX12_fits 13 = .ok (.istore_n 2, 1) := by decide +kernel
theorem dX12_fits_14 : decode cX12_fits 14 = .ok (.iconst 0, 1) := by decide +kernel
theorem dX12_fits_15 : decode cX12_fits 15 = .ok (.istore_n 3, 1) := by decide +kernel
theorem dX12_fits_16 : decode cX12_fits 16 = .ok (.iload_n 3, 1) := by decide +kernel
theorem dX12_fits_17 : decode cX12_fits 17 = .ok (.aload_n 0, 1) := by decide +kernel
theorem dX12_fits_18 : decode cX12_fits 18 = .ok (.getfield 92, 3) := by decide +kernel
theorem dX12_fits_21 : decode cX12_fits 21 = .ok (.if_icmp .ge 30, 3) := by decide +kernel
theorem dX12_fits_24 : decode cX12_fits 24 = .ok (.iload_n 2, 1) := by decide +kernel
theorem dX12_fits_25 : decode cX12_fits 25 = .ok (.iload_n 1, 1) := by decide +kernel
theorem dX12_fits_26 : decode cX12_fits 26 = .ok (.iload_n 3, 1) := by decide +kernel
theorem dX12_fits_27 : decode cX12_fits 27 = .ok (.invokestatic 216, 3) := by decide +kernel
theorem dX12_fits_30 : decode cX12_fits 30 = .ok (.ifCond .eq 12, 3) := by decide +kernel
theorem dX12_fits_33 : decode cX12_fits 33 = .ok (.aload_n 0, 1) := by decide +kernel
theorem dX12_fits_34 : decode cX12_fits 34 = .ok (.getfield 20, 3) := by decide +kernel
theorem dX12_fits_37 : decode cX12_fits 37 = .ok (.iload_n 3, 1) := by decide +kernel
theorem dX12_fits_38 : decode cX12_fits 38 = .ok (.iaload, 1) := by decide +kernel
theorem dX12_fits_39 : decode cX12_fits 39 = .ok (.goto 4, 3) := by decide +kernel
theorem dX12_fits_42 : decode cX12_fits 42 = .ok (.iload_n 2, 1) := by decide +kernel
theorem dX12_fits_43 : decode cX12_fits 43 = .ok (.iand, 1) := by decide +kernel
theorem dX12_fits_44 : decode cX12_fits 44 = .ok (.istore_n 2, 1) := by decide +kernel
theorem dX12_fits_45 : decode cX12_fits 45 = .ok (.iinc 3 1, 3) := by decide +kernel
theorem dX12_fits_48 : decode cX12_fits 48 = .ok (.goto (-32), 3) := by decide +kernel
theorem dX12_fits_51 : decode cX12_fits 51 = .ok (.aload_n 0, 1) := by decide +kernel
theorem dX12_fits_52 : decode cX12_fits 52 = .ok (.iconst 0, 1) := by decide +kernel
theorem dX12_fits_53 : decode cX12_fits 53 = .ok (.putfield 89, 3) := by decide +kernel
theorem dX12_fits_56 : decode cX12_fits 56 = .ok (.aload_n 0, 1) := by decide +kernel
theorem dX12_fits_57 : decode cX12_fits 57 = .ok (.iload_n 1, 1) := by decide +kernel
theorem dX12_fits_58 : decode cX12_fits 58 = .ok (.invokestatic 196, 3) := by decide +kernel
theorem dX12_fits_61 : decode cX12_fits 61 = .ok (.i2l, 1) := by decide +kernel
theorem dX12_fits_62 : decode cX12_fits 62 = .ok (.invokevirtual 280, 3) := by decide +kernel
theorem dX12_fits_65 : decode cX12_fits 65 = .ok (.aload_n 0, 1) := by decide +kernel
theorem dX12_fits_66 : decode cX12_fits 66 = .ok (.iload_n 2, 1) := by decide +kernel
theorem dX12_fits_67 : decode cX12_fits 67 = .ok (.i2l, 1) := by decide +kernel
theorem dX12_fits_68 : decode cX12_fits 68 = .ok (.invokevirtual 280, 3) := by decide +kernel
theorem dX12_fits_71 : decode cX12_fits 71 = .ok (.iload_n 1, 1) := by decide +kernel
theorem dX12_fits_72 : decode cX12_fits 72 = .ok (.ireturn, 1) := by decide +kernel
def fX12_fits_L16 (x1 : Int32) (M : zM) : Nat → Int32 → Int32 → Option Int32
  | 0, _, _ => none
  | n + 1, x2, x3 => if (M.1 36 1) ≤ x3 then (
    some x2)
    else (
    (if (fX12_has x1 x3) = 0 then (
    some x2)
    else (
    if zin x3 8 then (
    some (M.1 38 x3.toNatClampNeg)) else none) : Option Int32).bind fun (s0_43 : Int32) =>
    zlet (x2 &&& s0_43) fun (x2_44 : Int32) =>
    fX12_fits_L16 x1 M n x2_44 (x3 + 1))
def fX12_fits  (M : zM) : Option (Int32 × zM) := zlet (zSI M 36 12 0) fun (M2 : zM) =>
  (fX12_fitting M2).bind fun (r1 : Int32) =>
  (fX12_fits_L16 r1 M2 4000 255 0).bind fun (x2_51 : Int32) =>
  zlet (zSI M2 36 11 0) fun (M53 : zM) =>
  (fX12_tell ((fJ6_bitCount_0f7a4 r1).toInt64) M53).bind fun (M62 : zM) =>
  (fX12_tell x2_51.toInt64 M62).bind fun (M68 : zM) =>
  some (r1, M68)
set_option maxHeartbeats 4000000 in
theorem lX12_fits_16 {E : zE} {Γ : zT} {d : Nat} {K1 : Int32 → Prop} (hC : Cx E Γ RX12 cX12_fits 4 d) (hd : 2 ≤ d) (x1 : Int32) (M : zM) (hx : ∀ (x2_51 : Int32), K1 x2_51 → G E Γ 4 51 [(0, .ref 36), (1, .int x1), (2, .int x2_51)] [] M) :
    ∀ (n : Nat) (x2 : Int32) (x3 : Int32), wpO (fX12_fits_L16 x1 M n x2 x3) K1 → G E Γ 4 16 [(0, .ref 36), (1, .int x1), (2, .int x2), (3, .int x3)] [] M := by
  intro n
  induction n with
  | zero =>
    intro x2 x3 h
    exact (wpO_0 h).elim
  | succ n ih =>
    intro x2 x3 h
    rw [fX12_fits_L16.eq_2] at h
    refine g_iload_n (i := 3) (x := x3) hC (dX12_fits_16) rfl rfl ?_
    refine g_aload_n (i := 0) (x := 36) hC (dX12_fits_17) rfl rfl ?_
    refine g_getI hC flX12_92 (dX12_fits_18) rfl rfl ?_
    refine g_icmp_ge (tgt := 51) hC (dX12_fits_21) (by decide) (fun c21 => ?_) (fun c21 => ?_)
    · have h := wpO_t c21 h
      refine g_sub (lv' := [(0, .ref 36), (1, .int x1), (2, .int x2)]) [0, 1, 2] rfl ?_
      exact hx _ (wpO_s h)
    · have h := wpO_f c21 h
      refine g_iload_n (i := 2) (x := x2) hC (dX12_fits_24) rfl rfl ?_
      refine g_iload_n (i := 1) (x := x1) hC (dX12_fits_25) rfl rfl ?_
      refine g_iload_n (i := 3) (x := x3) hC (dX12_fits_26) rfl rfl ?_
      refine g_callSi ([.int x1, .int x3]) hC wsX12_216 (dX12_fits_27) rfl (by omega) (Nat.le_of_ble_eq_true rfl) (cX12_has_ok (by omega) x1 x3 M (K := fun r => r = fX12_has x1 x3) rfl) (fun r N q => ?_)
      obtain ⟨rfl, rfl⟩ := q
      refine wpO_bJ h (fun KJ3 hKJ3 h => ?_)
      have hJ3 : ∀ (s0_43 : Int32), KJ3 s0_43 → G E Γ 4 43 [(0, .ref 36), (1, .int x1), (3, .int x3)] [.int s0_43, .int x2] M := by
        intro s0_43 h
        have h := hKJ3 _ h
        refine g_iand hC (dX12_fits_43) ?_
        refine g_nmi (fun x2_44 e_x2_44 => ?_)
        have h := wpO_n e_x2_44 h
        refine g_istore_n (i := 2) (lv2 := [(2, .int x2_44), (0, .ref 36), (1, .int x1), (3, .int x3)]) hC (dX12_fits_44) rfl (by decide) rfl ?_
        refine g_iinc (x := x3) (v := (x3 + 1)) (lv2 := [(3, .int (x3 + 1)), (2, .int x2_44), (0, .ref 36), (1, .int x1)]) hC (dX12_fits_45) rfl rfl (by decide) rfl ?_
        refine g_goto (tgt := 16) hC (dX12_fits_48) (by decide) ?_
        refine g_sub (lv' := [(0, .ref 36), (1, .int x1), (2, .int x2_44), (3, .int (x3 + 1))]) [2, 3, 1, 0] rfl ?_
        exact ih _ _ h
      refine g_if_eq (tgt := 42) hC (dX12_fits_30) (by decide) (fun c30 => ?_) (fun c30 => ?_)
      · have h := wpO_t c30 h
        refine g_iload_n (i := 2) (x := x2) hC (dX12_fits_42) rfl rfl ?_
        refine g_sub (lv' := [(0, .ref 36), (1, .int x1), (3, .int x3)]) [0, 1, 3] rfl ?_
        exact hJ3 _ (wpO_s h)
      · have h := wpO_f c30 h
        refine g_aload_n (i := 0) (x := 36) hC (dX12_fits_33) rfl rfl ?_
        refine g_getR (r := 38) hC flX12_20 (dX12_fits_34) rfl rfl rfl ?_
        refine g_iload_n (i := 3) (x := x3) hC (dX12_fits_37) rfl rfl ?_
        obtain ⟨q4, h⟩ := wpO_g h
        refine g_iaload (n := 8) hC (dX12_fits_38) rfl q4 ?_
        refine g_goto (tgt := 43) hC (dX12_fits_39) (by decide) ?_
        refine g_sub (lv' := [(0, .ref 36), (1, .int x1), (3, .int x3)]) [0, 1, 3] rfl ?_
        exact hJ3 _ (wpO_s h)
set_option maxHeartbeats 4000000 in
theorem cX12_fits_ok {E : zE} {d : Nat} (hd : 2 ≤ d)  (M : zM) {K : (Int32 × zM) → Prop} (h : wpO (fX12_fits  M) K) : CMi E d yX12_fits cX12_fits 4 (some .int) [.ref 36] M (fun r N => K (r, N)) := by
  refine CMi.of (by decide) (Nat.le_of_ble_eq_true rfl) (fun Γ hC hr => ?_)
  have hC : Cx E Γ RX12 cX12_fits 4 d := hC
  show G E Γ 4 0 [(0, .ref 36)] [] M
  unfold fX12_fits at h
  refine g_aload_n (i := 0) (x := 36) hC (dX12_fits_0) rfl rfl ?_
  refine g_iconst (v := 0) hC (dX12_fits_1) kc_0 ?_
  refine g_putI hC fpX12_86 (dX12_fits_2) rfl rfl rfl rfl ?_
  refine g_nmM (fun M2 e_M2 => ?_)
  have h := wpO_n e_M2 h
  refine g_aload_n (i := 0) (x := 36) hC (dX12_fits_5) rfl rfl ?_
  have h := wpO_b h
  refine g_callVi ([]) hC wvX12_315 (dX12_fits_6) rfl rfl (by omega) (Nat.le_of_ble_eq_true rfl) (cX12_fitting_ok (by omega) M2 h) (fun r1 N q => ?_)
  obtain ⟨rfl, h⟩ := q
  refine g_istore_n (i := 1) (lv2 := [(1, .int r1), (0, .ref 36)]) hC (dX12_fits_9) rfl (by decide) rfl ?_
  refine g_sipush (v := 255) hC (dX12_fits_10) ks_255 ?_
  refine g_istore_n (i := 2) (lv2 := [(2, .int 255), (1, .int r1), (0, .ref 36)]) hC (dX12_fits_13) rfl (by decide) rfl ?_
  refine g_iconst (v := 0) hC (dX12_fits_14) kc_0 ?_
  refine g_istore_n (i := 3) (lv2 := [(3, .int 0), (2, .int 255), (1, .int r1), (0, .ref 36)]) hC (dX12_fits_15) rfl (by decide) rfl ?_
  refine g_sub (lv' := [(0, .ref 36), (1, .int r1), (2, .int 255), (3, .int 0)]) [3, 2, 1, 0] rfl ?_
  refine wpO_bJ h (fun KL16 hKL16 h => ?_)
  refine lX12_fits_16 (K1 := KL16) hC (by omega) r1 M2 (fun x2_51 h => ?_) _ _ _ h
  have h := hKL16 _ h
  refine g_aload_n (i := 0) (x := 36) hC (dX12_fits_51) rfl rfl ?_
  refine g_iconst (v := 0) hC (dX12_fits_52) kc_0 ?_
  refine g_putI hC fpX12_89 (dX12_fits_53) rfl rfl rfl rfl ?_
  refine g_nmM (fun M53 e_M53 => ?_)
  have h := wpO_n e_M53 h
  refine g_aload_n (i := 0) (x := 36) hC (dX12_fits_56) rfl rfl ?_
  refine g_iload_n (i := 1) (x := r1) hC (dX12_fits_57) rfl rfl ?_
  refine g_callSi ([.int r1]) hC wsX12_196 (dX12_fits_58) rfl (by omega) (Nat.le_of_ble_eq_true rfl) (cJ6_bitCount_0f7a4_ok (by omega) r1 M53 (K := fun r => r = fJ6_bitCount_0f7a4 r1) rfl) (fun r N q => ?_)
  obtain ⟨rfl, rfl⟩ := q
  refine g_i2l hC (dX12_fits_61) ?_
  have h := wpO_b h
  refine g_callVv ([.long ((fJ6_bitCount_0f7a4 r1).toInt64)]) hC wvX12_280 (dX12_fits_62) rfl rfl (by omega) (Nat.le_of_ble_eq_true rfl) (cX12_tell_ok (by omega) ((fJ6_bitCount_0f7a4 r1).toInt64) M53 h) (fun M62 h => ?_)
  refine g_aload_n (i := 0) (x := 36) hC (dX12_fits_65) rfl rfl ?_
  refine g_iload_n (i := 2) (x := x2_51) hC (dX12_fits_66) rfl rfl ?_
  refine g_i2l hC (dX12_fits_67) ?_
  have h := wpO_b h
  refine g_callVv ([.long x2_51.toInt64]) hC wvX12_280 (dX12_fits_68) rfl rfl (by omega) (Nat.le_of_ble_eq_true rfl) (cX12_tell_ok (by omega) x2_51.toInt64 M62 h) (fun M68 h => ?_)
  refine g_iload_n (i := 1) (x := r1) hC (dX12_fits_71) rfl rfl ?_
  refine g_ireturn hC hr (dX12_fits_72) ?_
  exact wpO_s h
/-! LostByStateModel.ask()I -/
theorem dX12_ask_0 : decode cX12_ask 0 = .ok (.aload_n 0, 1) := by decide +kernel
theorem dX12_ask_1 : decode cX12_ask 1 = .ok (.iconst 0, 1) := by decide +kernel
theorem dX12_ask_2 : decode cX12_ask 2 = .ok (.putfield 86, 3) := by decide +kernel
theorem dX12_ask_5 : decode cX12_ask 5 = .ok (.aload_n 0, 1) := by decide +kernel
theorem dX12_ask_6 : decode cX12_ask 6 = .ok (.invokevirtual 315, 3) := by decide +kernel
theorem dX12_ask_9 : decode cX12_ask 9 = .ok (.istore_n 1, 1) := by decide +kernel
theorem dX12_ask_10 : decode cX12_ask 10 = .ok (.iload_n 1, 1) := by decide +kernel
theorem dX12_ask_11 : decode cX12_ask 11 = .ok (.ifCond .ne 6, 3) := by decide +kernel
theorem dX12_ask_14 : decode cX12_ask 14 = .ok (.bipush (-2), 2) := by decide +kernel
theorem dX12_ask_16 : decode cX12_ask 16 = .ok (.ireturn, 1) := by decide +kernel
theorem dX12_ask_17 : decode cX12_ask 17 = .ok (.iconst (-1), 1) := by decide +kernel
theorem dX12_ask_18 : decode cX12_ask 18 = .ok (.istore_n 2, 1) := by decide +kernel
theorem dX12_ask_19 : decode cX12_ask 19 = .ok (.ldc_w 318, 3) := by decide +kernel
theorem dX12_ask_22 : decode cX12_ask 22 = .ok (.istore_n 3, 1) := by decide +kernel
theorem dX12_ask_23 : decode cX12_ask 23 = .ok (.iconst 0, 1) := by decide +kernel
theorem dX12_ask_24 : decode cX12_ask 24 = .ok (.istore 4, 2) := by decide +kernel
theorem dX12_ask_26 : decode cX12_ask 26 = .ok (.iload 4, 2) := by decide +kernel
theorem dX12_ask_28 : decode cX12_ask 28 = .ok (.bipush 8, 2) := by decide +kernel
theorem dX12_ask_30 : decode cX12_ask 30 = .ok (.if_icmp .ge 93, 3) := by decide +kernel
theorem dX12_ask_33 : decode cX12_ask 33 = .ok (.iconst 0, 1) := by decide +kernel
theorem dX12_ask_34 : decode cX12_ask 34 = .ok (.istore 5, 2) := by decide +kernel
theorem dX12_ask_36 : decode cX12_ask 36 = .ok (.iconst 0, 1) := by decide +kernel
theorem dX12_ask_37 : decode cX12_ask 37 = .ok (.istore 6, 2) := by decide +kernel
theorem dX12_ask_39 : decode cX12_ask 39 = .ok (.iload 6, 2) := by decide +kernel
theorem dX12_ask_41 : decode cX12_ask 41 = .ok (.aload_n 0, 1) := by decide +kernel
theorem dX12_ask_42 : decode cX12_ask 42 = .ok (.getfield 92, 3) := by decide +kernel
theorem dX12_ask_45 : decode cX12_ask 45 = .ok (.if_icmp .ge 43, 3) := by decide +kernel
theorem dX12_ask_48 : decode cX12_ask 48 = .ok (.iload 5, 2) := by decide +kernel
theorem dX12_ask_50 : decode cX12_ask 50 = .ok (.iload_n 1, 1) := by decide +kernel
theorem dX12_ask_51 : decode cX12_ask 51 = .ok (.iload 6, 2) := by decide +kernel
theorem dX12_ask_53 : decode cX12_ask 53 = .ok (.invokestatic 216, 3) := by decide +kernel
theorem dX12_ask_56 : decode cX12_ask 56 = .ok (.ifCond .eq 22, 3) := by decide +kernel
theorem dX12_ask_59 : decode cX12_ask 59 = .ok (.aload_n 0, 1) := by decide +kernel
theorem dX12_ask_60 : decode cX12_ask 60 = .ok (.getfield 20, 3) := by decide +kernel
theorem dX12_ask_63 : decode cX12_ask 63 = .ok (.iload 6, 2) := by decide +kernel
theorem dX12_ask_65 : decode cX12_ask 65 = .ok (.iaload, 1) := by decide +kernel
theorem dX12_ask_66 : decode cX12_ask 66 = .ok (.iload 4, 2) := by decide +kernel
theorem dX12_ask_68 : decode cX12_ask 68 = .ok (.invokestatic 216, 3) := by decide +kernel
theorem dX12_ask_71 : decode cX12_ask 71 = .ok (.ifCond .eq 7, 3) := by decide +kernel
theorem dX12_ask_74 : decode cX12_ask 74 = .ok (.iconst 1, 1) := by decide +kernel
theorem dX12_ask_75 : decode cX12_ask 75 = .ok (.goto 4, 3) := by decide +kernel
theorem dX12_ask_78 : decode cX12_ask 78 = .ok (.iconst 0, 1) := by decide +kernel
theorem dX12_ask_79 : decode cX12_ask 79 = .ok (.iadd, 1) := by decide +kernel
theorem dX12_ask_80 : decode cX12_ask 80 = .ok (.istore 5, 2) := by decide +kernel
theorem dX12_ask_82 : decode cX12_ask 82 = .ok (.iinc 6 1, 3) := by decide +kernel
theorem dX12_ask_85 : decode cX12_ask 85 = .ok (.goto (-46), 3) := by decide +kernel
theorem dX12_ask_88 : decode cX12_ask 88 = .ok (.iload 5, 2) := by decide +kernel
theorem dX12_ask_90 : decode cX12_ask 90 = .ok (.iload_n 1, 1) := by decide +kernel
theorem dX12_ask_91 : decode cX12_ask 91 = .ok (.invokestatic 196, 3) := by decide +kernel
theorem dX12_ask_94 : decode cX12_ask 94 = .ok (.iload 5, 2) := by decide +kernel
theorem dX12_ask_96 : decode cX12_ask 96 = .ok (.isub, 1) := by decide +kernel
theorem dX12_ask_97 : decode cX12_ask 97 = .ok (.invokestatic 206, 3) := by decide +kernel
theorem dX12_ask_100 : decode cX12_ask 100 = .ok (.istore 6, 2) := by decide +kernel
theorem dX12_ask_102 : decode cX12_ask 102 = .ok (.iload 6, 2) := by decide +kernel
theorem dX12_ask_104 : decode cX12_ask 104 = .ok (.iload_n 3, 1) := by decide +kernel
theorem dX12_ask_105 : decode cX12_ask 105 = .ok (.if_icmp .lt 6, 3) := by decide +kernel
theorem dX12_ask_108 : decode cX12_ask 108 = .ok (.goto 9, 3) := by decide +kernel
theorem dX12_ask_111 : decode cX12_ask 111 = .ok (.iload 4, 2) := by decide +kernel
theorem dX12_ask_113 : decode cX12_ask 113 = .ok (.istore_n 2, 1) := by decide +kernel
theorem dX12_ask_114 : decode cX12_ask 114 = .ok (.iload 6, 2) := by decide +kernel
theorem dX12_ask_116 : decode cX12_ask 116 = .ok (.istore_n 3, 1) := by decide +kernel
theorem dX12_ask_117 : decode cX12_ask 117 = .ok (.iinc 4 1, 3) := by decide +kernel
theorem dX12_ask_120 : decode cX12_ask 120 = .ok (.goto (-94), 3) := by decide +kernel
theorem dX12_ask_123 : decode cX12_ask 123 = .ok (.aload_n 0, 1) := by decide +kernel
theorem dX12_ask_124 : decode cX12_ask 124 = .ok (.iconst 0, 1) := by decide +kernel
theorem dX12_ask_125 : decode cX12_ask 125 = .ok (.putfield 89, 3) := by decide +kernel
theorem dX12_ask_128 : decode cX12_ask 128 = .ok (.aload_n 0, 1) := by decide +kernel
theorem dX12_ask_129 : decode cX12_ask 129 = .ok (.iload_n 3, 1) := by decide +kernel
theorem dX12_ask_130 : decode cX12_ask 130 = .ok (.i2l, 1) := by decide +kernel
theorem dX12_ask_131 : decode cX12_ask 131 = .ok (.invokevirtual 280, 3) := by decide +kernel
theorem dX12_ask_134 : decode cX12_ask 134 = .ok (.iload_n 2, 1) := by decide +kernel
theorem dX12_ask_135 : decode cX12_ask 135 = .ok (.ireturn, 1) := by decide +kernel
def fX12_ask_L39 (x1 : Int32) (x2 : Int32) (x3 : Int32) (x4 : Int32) (M : zM) : Nat → Int32 → Int32 → Option Int32
  | 0, _, _ => none
  | n + 1, x5, x6 => if (M.1 36 1) ≤ x6 then (
    some x5)
    else (
    (if (fX12_has x1 x6) = 0 then (
    some 0)
    else (
    if zin x6 8 then (
    if (fX12_has (M.1 38 x6.toNatClampNeg) x4) = 0 then (
    some 0)
    else (
    some 1)) else none) : Option Int32).bind fun (s0_79 : Int32) =>
    zlet (x5 + s0_79) fun (x5_80 : Int32) =>
    fX12_ask_L39 x1 x2 x3 x4 M n x5_80 (x6 + 1))
def fX12_ask_L26 (x1 : Int32) (M : zM) : Nat → Int32 → Int32 → Int32 → Option (Int32 × Int32)
  | 0, _, _, _ => none
  | n + 1, x2, x3, x4 => if 8 ≤ x4 then (
    some (x2, x3))
    else (
    (fX12_ask_L39 x1 x2 x3 x4 M 4000 0 0).bind fun (x5_88 : Int32) =>
    zlet (zmax x5_88 ((fJ6_bitCount_0f7a4 x1) - x5_88)) fun (x6_100 : Int32) =>
    zlet (if x6_100 < x3 then (
    x4)
    else (
    x2)) fun (x2_117 : Int32) =>
    zlet (if x6_100 < x3 then (
    x6_100)
    else (
    x3)) fun (x3_117 : Int32) =>
    fX12_ask_L26 x1 M n x2_117 x3_117 (x4 + 1))
def fX12_ask  (M : zM) : Option (Int32 × zM) := zlet (zSI M 36 12 0) fun (M2 : zM) =>
  (fX12_fitting M2).bind fun (r1 : Int32) =>
  if r1 = 0 then (
  some ((-2), M2))
  else (
  (fX12_ask_L26 r1 M2 4000 (-1) 1000000 0).bind fun (q : Int32 × Int32) => zp q fun x2_123 x3_123 =>
  zlet (zSI M2 36 11 0) fun (M125 : zM) =>
  (fX12_tell x3_123.toInt64 M125).bind fun (M131 : zM) =>
  some (x2_123, M131))
set_option maxHeartbeats 4000000 in
theorem lX12_ask_39 {E : zE} {Γ : zT} {d : Nat} {K1 : Int32 → Prop} (hC : Cx E Γ RX12 cX12_ask 7 d) (hd : 2 ≤ d) (x1 : Int32) (x2 : Int32) (x3 : Int32) (x4 : Int32) (M : zM) (hx : ∀ (x5_88 : Int32), K1 x5_88 → G E Γ 7 88 [(0, .ref 36), (1, .int x1), (2, .int x2), (3, .int x3), (4, .int x4), (5, .int x5_88)] [] M) :
    ∀ (n : Nat) (x5 : Int32) (x6 : Int32), wpO (fX12_ask_L39 x1 x2 x3 x4 M n x5 x6) K1 → G E Γ 7 39 [(0, .ref 36), (1, .int x1), (2, .int x2), (3, .int x3), (4, .int x4), (5, .int x5), (6, .int x6)] [] M := by
  intro n
  induction n with
  | zero =>
    intro x5 x6 h
    exact (wpO_0 h).elim
  | succ n ih =>
    intro x5 x6 h
    rw [fX12_ask_L39.eq_2] at h
    refine g_iload (i := 6) (x := x6) hC (dX12_ask_39) rfl ?_
    refine g_aload_n (i := 0) (x := 36) hC (dX12_ask_41) rfl rfl ?_
    refine g_getI hC flX12_92 (dX12_ask_42) rfl rfl ?_
    refine g_icmp_ge (tgt := 88) hC (dX12_ask_45) (by decide) (fun c45 => ?_) (fun c45 => ?_)
    · have h := wpO_t c45 h
      refine g_sub (lv' := [(0, .ref 36), (1, .int x1), (2, .int x2), (3, .int x3), (4, .int x4), (5, .int x5)]) [0, 1, 2, 3, 4, 5] rfl ?_
      exact hx _ (wpO_s h)
    · have h := wpO_f c45 h
      refine g_iload (i := 5) (x := x5) hC (dX12_ask_48) rfl ?_
      refine g_iload_n (i := 1) (x := x1) hC (dX12_ask_50) rfl rfl ?_
      refine g_iload (i := 6) (x := x6) hC (dX12_ask_51) rfl ?_
      refine g_callSi ([.int x1, .int x6]) hC wsX12_216 (dX12_ask_53) rfl (by omega) (Nat.le_of_ble_eq_true rfl) (cX12_has_ok (by omega) x1 x6 M (K := fun r => r = fX12_has x1 x6) rfl) (fun r N q => ?_)
      obtain ⟨rfl, rfl⟩ := q
      refine wpO_bJ h (fun KJ3 hKJ3 h => ?_)
      have hJ3 : ∀ (s0_79 : Int32), KJ3 s0_79 → G E Γ 7 79 [(0, .ref 36), (1, .int x1), (2, .int x2), (3, .int x3), (4, .int x4), (6, .int x6)] [.int s0_79, .int x5] M := by
        intro s0_79 h
        have h := hKJ3 _ h
        refine g_iadd hC (dX12_ask_79) ?_
        refine g_nmi (fun x5_80 e_x5_80 => ?_)
        have h := wpO_n e_x5_80 h
        refine g_istore (i := 5) (lv2 := [(5, .int x5_80), (0, .ref 36), (1, .int x1), (2, .int x2), (3, .int x3), (4, .int x4), (6, .int x6)]) hC (dX12_ask_80) (by decide) rfl ?_
        refine g_iinc (x := x6) (v := (x6 + 1)) (lv2 := [(6, .int (x6 + 1)), (5, .int x5_80), (0, .ref 36), (1, .int x1), (2, .int x2), (3, .int x3), (4, .int x4)]) hC (dX12_ask_82) rfl rfl (by decide) rfl ?_
        refine g_goto (tgt := 39) hC (dX12_ask_85) (by decide) ?_
        refine g_sub (lv' := [(0, .ref 36), (1, .int x1), (2, .int x2), (3, .int x3), (4, .int x4), (5, .int x5_80), (6, .int (x6 + 1))]) [2, 3, 4, 5, 6, 1, 0] rfl ?_
        exact ih _ _ h
      refine g_if_eq (tgt := 78) hC (dX12_ask_56) (by decide) (fun c56 => ?_) (fun c56 => ?_)
      · have h := wpO_t c56 h
        refine g_iconst (v := 0) hC (dX12_ask_78) kc_0 ?_
        refine g_sub (lv' := [(0, .ref 36), (1, .int x1), (2, .int x2), (3, .int x3), (4, .int x4), (6, .int x6)]) [0, 1, 2, 3, 4, 6] rfl ?_
        exact hJ3 _ (wpO_s h)
      · have h := wpO_f c56 h
        refine g_aload_n (i := 0) (x := 36) hC (dX12_ask_59) rfl rfl ?_
        refine g_getR (r := 38) hC flX12_20 (dX12_ask_60) rfl rfl rfl ?_
        refine g_iload (i := 6) (x := x6) hC (dX12_ask_63) rfl ?_
        obtain ⟨q4, h⟩ := wpO_g h
        refine g_iaload (n := 8) hC (dX12_ask_65) rfl q4 ?_
        refine g_iload (i := 4) (x := x4) hC (dX12_ask_66) rfl ?_
        refine g_callSi ([.int (M.1 38 x6.toNatClampNeg), .int x4]) hC wsX12_216 (dX12_ask_68) rfl (by omega) (Nat.le_of_ble_eq_true rfl) (cX12_has_ok (by omega) (M.1 38 x6.toNatClampNeg) x4 M (K := fun r => r = fX12_has (M.1 38 x6.toNatClampNeg) x4) rfl) (fun r N q => ?_)
        obtain ⟨rfl, rfl⟩ := q
        refine g_if_eq (tgt := 78) hC (dX12_ask_71) (by decide) (fun c71 => ?_) (fun c71 => ?_)
        · have h := wpO_t c71 h
          refine g_iconst (v := 0) hC (dX12_ask_78) kc_0 ?_
          refine g_sub (lv' := [(0, .ref 36), (1, .int x1), (2, .int x2), (3, .int x3), (4, .int x4), (6, .int x6)]) [0, 1, 2, 3, 4, 6] rfl ?_
          exact hJ3 _ (wpO_s h)
        · have h := wpO_f c71 h
          refine g_iconst (v := 1) hC (dX12_ask_74) kc_1 ?_
          refine g_goto (tgt := 79) hC (dX12_ask_75) (by decide) ?_
          refine g_sub (lv' := [(0, .ref 36), (1, .int x1), (2, .int x2), (3, .int x3), (4, .int x4), (6, .int x6)]) [0, 1, 2, 3, 4, 6] rfl ?_
          exact hJ3 _ (wpO_s h)
set_option maxHeartbeats 4000000 in
theorem lX12_ask_26 {E : zE} {Γ : zT} {d : Nat} {K1 : (Int32 × Int32) → Prop} (hC : Cx E Γ RX12 cX12_ask 7 d) (hd : 2 ≤ d) (x1 : Int32) (M : zM) (hx : ∀ (x2_123 : Int32) (x3_123 : Int32), K1 (x2_123, x3_123) → G E Γ 7 123 [(0, .ref 36), (2, .int x2_123), (3, .int x3_123)] [] M) :
    ∀ (n : Nat) (x2 : Int32) (x3 : Int32) (x4 : Int32), wpO (fX12_ask_L26 x1 M n x2 x3 x4) K1 → G E Γ 7 26 [(0, .ref 36), (1, .int x1), (2, .int x2), (3, .int x3), (4, .int x4)] [] M := by
  intro n
  induction n with
  | zero =>
    intro x2 x3 x4 h
    exact (wpO_0 h).elim
  | succ n ih =>
    intro x2 x3 x4 h
    rw [fX12_ask_L26.eq_2] at h
    refine g_iload (i := 4) (x := x4) hC (dX12_ask_26) rfl ?_
    refine g_bipush (v := 8) hC (dX12_ask_28) kb_8 ?_
    refine g_icmp_ge (tgt := 123) hC (dX12_ask_30) (by decide) (fun c30 => ?_) (fun c30 => ?_)
    · have h := wpO_t c30 h
      refine g_sub (lv' := [(0, .ref 36), (2, .int x2), (3, .int x3)]) [0, 2, 3] rfl ?_
      exact hx _ _ (wpO_s h)
    · have h := wpO_f c30 h
      refine g_iconst (v := 0) hC (dX12_ask_33) kc_0 ?_
      refine g_istore (i := 5) (lv2 := [(5, .int 0), (0, .ref 36), (1, .int x1), (2, .int x2), (3, .int x3), (4, .int x4)]) hC (dX12_ask_34) (by decide) rfl ?_
      refine g_iconst (v := 0) hC (dX12_ask_36) kc_0 ?_
      refine g_istore (i := 6) (lv2 := [(6, .int 0), (5, .int 0), (0, .ref 36), (1, .int x1), (2, .int x2), (3, .int x3), (4, .int x4)]) hC (dX12_ask_37) (by decide) rfl ?_
      refine g_sub (lv' := [(0, .ref 36), (1, .int x1), (2, .int x2), (3, .int x3), (4, .int x4), (5, .int 0), (6, .int 0)]) [2, 3, 4, 5, 6, 1, 0] rfl ?_
      refine wpO_bJ h (fun KL39 hKL39 h => ?_)
      refine lX12_ask_39 (K1 := KL39) hC (by omega) x1 x2 x3 x4 M (fun x5_88 h => ?_) _ _ _ h
      have h := hKL39 _ h
      refine g_iload (i := 5) (x := x5_88) hC (dX12_ask_88) rfl ?_
      refine g_iload_n (i := 1) (x := x1) hC (dX12_ask_90) rfl rfl ?_
      refine g_callSi ([.int x1]) hC wsX12_196 (dX12_ask_91) rfl (by omega) (Nat.le_of_ble_eq_true rfl) (cJ6_bitCount_0f7a4_ok (by omega) x1 M (K := fun r => r = fJ6_bitCount_0f7a4 x1) rfl) (fun r N q => ?_)
      obtain ⟨rfl, rfl⟩ := q
      refine g_iload (i := 5) (x := x5_88) hC (dX12_ask_94) rfl ?_
      refine g_isub hC (dX12_ask_96) ?_
      refine g_max hC wmX12_206 (dX12_ask_97) (by omega) (Nat.le_of_ble_eq_true rfl) ?_
      refine g_nmi (fun x6_100 e_x6_100 => ?_)
      have h := wpO_n e_x6_100 h
      refine g_istore (i := 6) (lv2 := [(6, .int x6_100), (0, .ref 36), (1, .int x1), (2, .int x2), (3, .int x3), (4, .int x4), (5, .int x5_88)]) hC (dX12_ask_100) (by decide) rfl ?_
      refine g_iload (i := 6) (x := x6_100) hC (dX12_ask_102) rfl ?_
      refine g_iload_n (i := 3) (x := x3) hC (dX12_ask_104) rfl rfl ?_
      obtain ⟨x2_117, e_x2_117, h⟩ := wpO_l h
      obtain ⟨x3_117, e_x3_117, h⟩ := wpO_l h
      have hJ7 : G E Γ 7 117 [(0, .ref 36), (1, .int x1), (2, .int x2_117), (3, .int x3_117), (4, .int x4)] [] M := by
        refine g_iinc (x := x4) (v := (x4 + 1)) (lv2 := [(4, .int (x4 + 1)), (0, .ref 36), (1, .int x1), (2, .int x2_117), (3, .int x3_117)]) hC (dX12_ask_117) rfl rfl (by decide) rfl ?_
        refine g_goto (tgt := 26) hC (dX12_ask_120) (by decide) ?_
        refine g_sub (lv' := [(0, .ref 36), (1, .int x1), (2, .int x2_117), (3, .int x3_117), (4, .int (x4 + 1))]) [1, 2, 3, 4, 0] rfl ?_
        exact ih _ _ _ h
      refine g_icmp_lt (tgt := 111) hC (dX12_ask_105) (by decide) (fun c105 => ?_) (fun c105 => ?_)
      · rw [if_pos c105] at e_x2_117 e_x3_117
        refine g_iload (i := 4) (x := x4) hC (dX12_ask_111) rfl ?_
        refine g_istore_n (i := 2) (lv2 := [(2, .int x4), (6, .int x6_100), (0, .ref 36), (1, .int x1), (3, .int x3), (4, .int x4), (5, .int x5_88)]) hC (dX12_ask_113) rfl (by decide) rfl ?_
        refine g_iload (i := 6) (x := x6_100) hC (dX12_ask_114) rfl ?_
        refine g_istore_n (i := 3) (lv2 := [(3, .int x6_100), (2, .int x4), (6, .int x6_100), (0, .ref 36), (1, .int x1), (4, .int x4), (5, .int x5_88)]) hC (dX12_ask_116) rfl (by decide) rfl ?_
        refine g_sub (lv' := [(0, .ref 36), (1, .int x1), (2, .int x4), (3, .int x6_100), (4, .int x4)]) [3, 4, 1, 0, 5] rfl ?_
        subst e_x2_117
        subst e_x3_117
        exact hJ7
      · rw [if_neg c105] at e_x2_117 e_x3_117
        refine g_goto (tgt := 117) hC (dX12_ask_108) (by decide) ?_
        refine g_sub (lv' := [(0, .ref 36), (1, .int x1), (2, .int x2), (3, .int x3), (4, .int x4)]) [1, 2, 3, 4, 5] rfl ?_
        subst e_x2_117
        subst e_x3_117
        exact hJ7
set_option maxHeartbeats 4000000 in
theorem cX12_ask_ok {E : zE} {d : Nat} (hd : 2 ≤ d)  (M : zM) {K : (Int32 × zM) → Prop} (h : wpO (fX12_ask  M) K) : CMi E d yX12_ask cX12_ask 7 (some .int) [.ref 36] M (fun r N => K (r, N)) := by
  refine CMi.of (by decide) (Nat.le_of_ble_eq_true rfl) (fun Γ hC hr => ?_)
  have hC : Cx E Γ RX12 cX12_ask 7 d := hC
  show G E Γ 7 0 [(0, .ref 36)] [] M
  unfold fX12_ask at h
  refine g_aload_n (i := 0) (x := 36) hC (dX12_ask_0) rfl rfl ?_
  refine g_iconst (v := 0) hC (dX12_ask_1) kc_0 ?_
  refine g_putI hC fpX12_86 (dX12_ask_2) rfl rfl rfl rfl ?_
  refine g_nmM (fun M2 e_M2 => ?_)
  have h := wpO_n e_M2 h
  refine g_aload_n (i := 0) (x := 36) hC (dX12_ask_5) rfl rfl ?_
  have h := wpO_b h
  refine g_callVi ([]) hC wvX12_315 (dX12_ask_6) rfl rfl (by omega) (Nat.le_of_ble_eq_true rfl) (cX12_fitting_ok (by omega) M2 h) (fun r1 N q => ?_)
  obtain ⟨rfl, h⟩ := q
  refine g_istore_n (i := 1) (lv2 := [(1, .int r1), (0, .ref 36)]) hC (dX12_ask_9) rfl (by decide) rfl ?_
  refine g_iload_n (i := 1) (x := r1) hC (dX12_ask_10) rfl rfl ?_
  refine g_if_ne (tgt := 17) hC (dX12_ask_11) (by decide) (fun c11 => ?_) (fun c11 => ?_)
  · have h := wpO_f c11 h
    refine g_iconst (v := (-1)) hC (dX12_ask_17) kc_m1 ?_
    refine g_istore_n (i := 2) (lv2 := [(2, .int (-1)), (1, .int r1), (0, .ref 36)]) hC (dX12_ask_18) rfl (by decide) rfl ?_
    refine g_ldc_w (v := 1000000) hC m_1550 (dX12_ask_19) ?_
    refine g_istore_n (i := 3) (lv2 := [(3, .int 1000000), (2, .int (-1)), (1, .int r1), (0, .ref 36)]) hC (dX12_ask_22) rfl (by decide) rfl ?_
    refine g_iconst (v := 0) hC (dX12_ask_23) kc_0 ?_
    refine g_istore (i := 4) (lv2 := [(4, .int 0), (3, .int 1000000), (2, .int (-1)), (1, .int r1), (0, .ref 36)]) hC (dX12_ask_24) (by decide) rfl ?_
    refine g_sub (lv' := [(0, .ref 36), (1, .int r1), (2, .int (-1)), (3, .int 1000000), (4, .int 0)]) [4, 3, 2, 1, 0] rfl ?_
    refine wpO_bJ h (fun KL26 hKL26 h => ?_)
    refine lX12_ask_26 (K1 := KL26) hC (by omega) r1 M2 (fun x2_123 x3_123 h => ?_) _ _ _ _ h
    have h := hKL26 _ h
    have h := wpO_p h
    refine g_aload_n (i := 0) (x := 36) hC (dX12_ask_123) rfl rfl ?_
    refine g_iconst (v := 0) hC (dX12_ask_124) kc_0 ?_
    refine g_putI hC fpX12_89 (dX12_ask_125) rfl rfl rfl rfl ?_
    refine g_nmM (fun M125 e_M125 => ?_)
    have h := wpO_n e_M125 h
    refine g_aload_n (i := 0) (x := 36) hC (dX12_ask_128) rfl rfl ?_
    refine g_iload_n (i := 3) (x := x3_123) hC (dX12_ask_129) rfl rfl ?_
    refine g_i2l hC (dX12_ask_130) ?_
    have h := wpO_b h
    refine g_callVv ([.long x3_123.toInt64]) hC wvX12_280 (dX12_ask_131) rfl rfl (by omega) (Nat.le_of_ble_eq_true rfl) (cX12_tell_ok (by omega) x3_123.toInt64 M125 h) (fun M131 h => ?_)
    refine g_iload_n (i := 2) (x := x2_123) hC (dX12_ask_134) rfl rfl ?_
    refine g_ireturn hC hr (dX12_ask_135) ?_
    exact wpO_s h
  · have h := wpO_t c11 h
    refine g_bipush (v := (-2)) hC (dX12_ask_14) kb_m2 ?_
    refine g_ireturn hC hr (dX12_ask_16) ?_
    exact wpO_s h
/-! LostByStateModel.doTell(I)Z -/
theorem dX12_doTell_0 : decode cX12_doTell 0 = .ok (.iconst 0, 1) := by decide +kernel
theorem dX12_doTell_1 : decode cX12_doTell 1 = .ok (.istore_n 2, 1) := by decide +kernel
theorem dX12_doTell_2 : decode cX12_doTell 2 = .ok (.iload_n 2, 1) := by decide +kernel
theorem dX12_doTell_3 : decode cX12_doTell 3 = .ok (.aload_n 0, 1) := by decide +kernel
theorem dX12_doTell_4 : decode cX12_doTell 4 = .ok (.getfield 92, 3) := by decide +kernel
theorem dX12_doTell_7 : decode cX12_doTell 7 = .ok (.if_icmp .ge 48, 3) := by decide +kernel
theorem dX12_doTell_10 : decode cX12_doTell 10 = .ok (.iload_n 2, 1) := by decide +kernel
theorem dX12_doTell_11 : decode cX12_doTell 11 = .ok (.iconst 1, 1) := by decide +kernel
theorem dX12_doTell_12 : decode cX12_doTell 12 = .ok (.iadd, 1) := by decide +kernel
theorem dX12_doTell_13 : decode cX12_doTell 13 = .ok (.istore_n 3, 1) := by decide +kernel
theorem dX12_doTell_14 : decode cX12_doTell 14 = .ok (.iload_n 3, 1) := by decide +kernel
theorem dX12_doTell_15 : decode cX12_doTell 15 = .ok (.aload_n 0, 1) := by decide +kernel
theorem dX12_doTell_16 : decode cX12_doTell 16 = .ok (.getfield 92, 3) := by decide +kernel
theorem dX12_doTell_19 : decode cX12_doTell 19 = .ok (.if_icmp .ge 30, 3) := by decide +kernel
theorem dX12_doTell_22 : decode cX12_doTell 22 = .ok (.aload_n 0, 1) := by decide +kernel
theorem dX12_doTell_23 : decode cX12_doTell 23 = .ok (.getfield 20, 3) := by decide +kernel
theorem dX12_doTell_26 : decode cX12_doTell 26 = .ok (.iload_n 2, 1) := by decide +kernel
theorem dX12_doTell_27 : decode cX12_doTell 27 = .ok (.iaload, 1) := by decide +kernel
theorem dX12_doTell_28 : decode cX12_doTell 28 = .ok (.iload_n 1, 1) := by decide +kernel
theorem dX12_doTell_29 : decode cX12_doTell 29 = .ok (.iand, 1) := by decide +kernel
theorem dX12_doTell_30 : decode cX12_doTell 30 = .ok (.aload_n 0, 1) := by decide +kernel
theorem dX12_doTell_31 : decode cX12_doTell 31 = .ok (.getfield 20, 3) := by decide +kernel
theorem dX12_doTell_34 : decode cX12_doTell 34 = .ok (.iload_n 3, 1) := by decide +kernel
theorem dX12_doTell_35 : decode cX12_doTell 35 = .ok (.iaload, 1) := by decide +kernel
theorem dX12_doTell_36 : decode cX12_doTell 36 = .ok (.iload_n 1, 1) := by decide +kernel
theorem dX12_doTell_37 : decode cX12_doTell 37 = .ok (.iand, 1) := by decide +kernel
theorem dX12_doTell_38 : decode cX12_doTell 38 = .ok (.if_icmp .ne 5, 3) := by decide +kernel
theorem dX12_doTell_41 : decode cX12_doTell 41 = .ok (.iconst 0, 1) := by decide +kernel
theorem dX12_doTell_42 : decode cX12_doTell 42 = .ok (.ireturn, 1) := by decide +kernel
theorem dX12_doTell_43 : decode cX12_doTell 43 = .ok (.iinc 3 1, 3) := by decide +kernel
theorem dX12_doTell_46 : decode cX12_doTell 46 = .ok (.goto (-32), 3) := by decide +kernel
theorem dX12_doTell_49 : decode cX12_doTell 49 = .ok (.iinc 2 1, 3) := by decide +kernel
theorem dX12_doTell_52 : decode cX12_doTell 52 = .ok (.goto (-50), 3) := by decide +kernel
theorem dX12_doTell_55 : decode cX12_doTell 55 = .ok (.iconst 1, 1) := by decide +kernel
theorem dX12_doTell_56 : decode cX12_doTell 56 = .ok (.ireturn, 1) := by decide +kernel
def fX12_doTell_L14 (x1 : Int32) (x2 : Int32) (M : zM) : Nat → Int32 → Option (Int32 ⊕ Unit)
  | 0, _ => none
  | n + 1, x3 => if (M.1 36 1) ≤ x3 then (
    some (.inr ()))
    else (
    if zin x2 8 then (
    if zin x3 8 then (
    if ((M.1 38 x2.toNatClampNeg) &&& x1) = ((M.1 38 x3.toNatClampNeg) &&& x1) then (
    some (.inl 0))
    else (
    fX12_doTell_L14 x1 x2 M n (x3 + 1))) else none) else none)
def fX12_doTell_L2 (x1 : Int32) (M : zM) : Nat → Int32 → Option (Int32 ⊕ Unit)
  | 0, _ => none
  | n + 1, x2 => if (M.1 36 1) ≤ x2 then (
    some (.inr ()))
    else (
    zlet (x2 + 1) fun (x3_13 : Int32) =>
    (fX12_doTell_L14 x1 x2 M 4000 x3_13).bind fun q => zs q (fun r => some (.inl r))
    (fun (_ : Unit) =>
    fX12_doTell_L2 x1 M n (x2 + 1)))
def fX12_doTell (x1 : Int32) (M : zM) : Option Int32 := (fX12_doTell_L2 x1 M 4000 0).bind fun q => zs q (fun r => some r)
  (fun (_ : Unit) =>
  some 1)
set_option maxHeartbeats 4000000 in
theorem lX12_doTell_14 {E : zE} {Γ : zT} {d : Nat} {K1 : (Int32 ⊕ Unit) → Prop} (hC : Cx E Γ RX12 cX12_doTell 4 d) {post : Int32 → zM → Prop} (hr : zRi E Γ (some .boolean) post) (hd : 0 ≤ d) (x1 : Int32) (x2 : Int32) (M : zM) (hret : ∀ r : Int32, K1 (.inl r) → post r M) (hx : ∀ (_ : Unit), K1 (.inr ()) → G E Γ 4 49 [(0, .ref 36), (1, .int x1), (2, .int x2)] [] M) :
    ∀ (n : Nat) (x3 : Int32), wpO (fX12_doTell_L14 x1 x2 M n x3) K1 → G E Γ 4 14 [(0, .ref 36), (1, .int x1), (2, .int x2), (3, .int x3)] [] M := by
  intro n
  induction n with
  | zero =>
    intro x3 h
    exact (wpO_0 h).elim
  | succ n ih =>
    intro x3 h
    rw [fX12_doTell_L14.eq_2] at h
    refine g_iload_n (i := 3) (x := x3) hC (dX12_doTell_14) rfl rfl ?_
    refine g_aload_n (i := 0) (x := 36) hC (dX12_doTell_15) rfl rfl ?_
    refine g_getI hC flX12_92 (dX12_doTell_16) rfl rfl ?_
    refine g_icmp_ge (tgt := 49) hC (dX12_doTell_19) (by decide) (fun c19 => ?_) (fun c19 => ?_)
    · have h := wpO_t c19 h
      refine g_sub (lv' := [(0, .ref 36), (1, .int x1), (2, .int x2)]) [0, 1, 2] rfl ?_
      exact hx () (wpO_s h)
    · have h := wpO_f c19 h
      refine g_aload_n (i := 0) (x := 36) hC (dX12_doTell_22) rfl rfl ?_
      refine g_getR (r := 38) hC flX12_20 (dX12_doTell_23) rfl rfl rfl ?_
      refine g_iload_n (i := 2) (x := x2) hC (dX12_doTell_26) rfl rfl ?_
      obtain ⟨q1, h⟩ := wpO_g h
      refine g_iaload (n := 8) hC (dX12_doTell_27) rfl q1 ?_
      refine g_iload_n (i := 1) (x := x1) hC (dX12_doTell_28) rfl rfl ?_
      refine g_iand hC (dX12_doTell_29) ?_
      refine g_aload_n (i := 0) (x := 36) hC (dX12_doTell_30) rfl rfl ?_
      refine g_getR (r := 38) hC flX12_20 (dX12_doTell_31) rfl rfl rfl ?_
      refine g_iload_n (i := 3) (x := x3) hC (dX12_doTell_34) rfl rfl ?_
      obtain ⟨q2, h⟩ := wpO_g h
      refine g_iaload (n := 8) hC (dX12_doTell_35) rfl q2 ?_
      refine g_iload_n (i := 1) (x := x1) hC (dX12_doTell_36) rfl rfl ?_
      refine g_iand hC (dX12_doTell_37) ?_
      refine g_icmp_ne (tgt := 43) hC (dX12_doTell_38) (by decide) (fun c38 => ?_) (fun c38 => ?_)
      · have h := wpO_f c38 h
        refine g_iinc (x := x3) (v := (x3 + 1)) (lv2 := [(3, .int (x3 + 1)), (0, .ref 36), (1, .int x1), (2, .int x2)]) hC (dX12_doTell_43) rfl rfl (by decide) rfl ?_
        refine g_goto (tgt := 14) hC (dX12_doTell_46) (by decide) ?_
        refine g_sub (lv' := [(0, .ref 36), (1, .int x1), (2, .int x2), (3, .int (x3 + 1))]) [1, 2, 3, 0] rfl ?_
        exact ih _ h
      · have h := wpO_t c38 h
        refine g_iconst (v := 0) hC (dX12_doTell_41) kc_0 ?_
        refine g_zreturn hC hr (dX12_doTell_42) (Or.inl rfl) ?_
        exact hret _ (wpO_s h)
set_option maxHeartbeats 4000000 in
theorem lX12_doTell_2 {E : zE} {Γ : zT} {d : Nat} {K1 : (Int32 ⊕ Unit) → Prop} (hC : Cx E Γ RX12 cX12_doTell 4 d) {post : Int32 → zM → Prop} (hr : zRi E Γ (some .boolean) post) (hd : 0 ≤ d) (x1 : Int32) (M : zM) (hret : ∀ r : Int32, K1 (.inl r) → post r M) (hx : ∀ (_ : Unit), K1 (.inr ()) → G E Γ 4 55 [] [] M) :
    ∀ (n : Nat) (x2 : Int32), wpO (fX12_doTell_L2 x1 M n x2) K1 → G E Γ 4 2 [(0, .ref 36), (1, .int x1), (2, .int x2)] [] M := by
  intro n
  induction n with
  | zero =>
    intro x2 h
    exact (wpO_0 h).elim
  | succ n ih =>
    intro x2 h
    rw [fX12_doTell_L2.eq_2] at h
    refine g_iload_n (i := 2) (x := x2) hC (dX12_doTell_2) rfl rfl ?_
    refine g_aload_n (i := 0) (x := 36) hC (dX12_doTell_3) rfl rfl ?_
    refine g_getI hC flX12_92 (dX12_doTell_4) rfl rfl ?_
    refine g_icmp_ge (tgt := 55) hC (dX12_doTell_7) (by decide) (fun c7 => ?_) (fun c7 => ?_)
    · have h := wpO_t c7 h
      refine g_sub (lv' := []) [] rfl ?_
      exact hx () (wpO_s h)
    · have h := wpO_f c7 h
      refine g_iload_n (i := 2) (x := x2) hC (dX12_doTell_10) rfl rfl ?_
      refine g_iconst (v := 1) hC (dX12_doTell_11) kc_1 ?_
      refine g_iadd hC (dX12_doTell_12) ?_
      refine g_nmi (fun x3_13 e_x3_13 => ?_)
      have h := wpO_n e_x3_13 h
      refine g_istore_n (i := 3) (lv2 := [(3, .int x3_13), (0, .ref 36), (1, .int x1), (2, .int x2)]) hC (dX12_doTell_13) rfl (by decide) rfl ?_
      refine g_sub (lv' := [(0, .ref 36), (1, .int x1), (2, .int x2), (3, .int x3_13)]) [1, 2, 3, 0] rfl ?_
      refine wpO_bJ h (fun KL14 hKL14 h => ?_)
      refine lX12_doTell_14 (K1 := KL14) hC hr (by omega) x1 x2 M (fun r h => ?_) (fun _ h => ?_) _ _ h
      · have h := wpO_i (hKL14 _ h)
        exact hret _ (wpO_s h)
      · have h := wpO_r (hKL14 _ h)
        refine g_iinc (x := x2) (v := (x2 + 1)) (lv2 := [(2, .int (x2 + 1)), (0, .ref 36), (1, .int x1)]) hC (dX12_doTell_49) rfl rfl (by decide) rfl ?_
        refine g_goto (tgt := 2) hC (dX12_doTell_52) (by decide) ?_
        refine g_sub (lv' := [(0, .ref 36), (1, .int x1), (2, .int (x2 + 1))]) [1, 2, 0] rfl ?_
        exact ih _ h
set_option maxHeartbeats 4000000 in
theorem cX12_doTell_ok {E : zE} {d : Nat} (hd : 0 ≤ d) (x1 : Int32) (M : zM) {K : Int32 → Prop} (h : wpO (fX12_doTell x1 M) K) : CMi E d yX12_doTell cX12_doTell 4 (some .boolean) [.ref 36, .int x1] M (fun r N => M = N ∧ K r) := by
  refine CMi.of (by decide) (Nat.le_of_ble_eq_true rfl) (fun Γ hC hr => ?_)
  have hC : Cx E Γ RX12 cX12_doTell 4 d := hC
  show G E Γ 4 0 [(0, .ref 36), (1, .int x1)] [] M
  unfold fX12_doTell at h
  refine g_iconst (v := 0) hC (dX12_doTell_0) kc_0 ?_
  refine g_istore_n (i := 2) (lv2 := [(2, .int 0), (0, .ref 36), (1, .int x1)]) hC (dX12_doTell_1) rfl (by decide) rfl ?_
  refine g_sub (lv' := [(0, .ref 36), (1, .int x1), (2, .int 0)]) [1, 2, 0] rfl ?_
  refine wpO_bJ h (fun KL2 hKL2 h => ?_)
  refine lX12_doTell_2 (K1 := KL2) hC hr (by omega) x1 M (fun r h => ?_) (fun _ h => ?_) _ _ h
  · have h := wpO_i (hKL2 _ h)
    exact ⟨rfl, wpO_s h⟩
  · have h := wpO_r (hKL2 _ h)
    refine g_iconst (v := 1) hC (dX12_doTell_55) kc_1 ?_
    refine g_zreturn hC hr (dX12_doTell_56) (Or.inr rfl) ?_
    exact ⟨rfl, wpO_s h⟩
/-! LostByStateModel.tellsApart()I -/
theorem dX12_tellsApart_0 : decode cX12_tellsApart 0 = .ok (.aload_n 0, 1) := by decide +kernel
theorem dX12_tellsApart_1 : decode cX12_tellsApart 1 = .ok (.iconst 0, 1) := by decide +kernel
theorem dX12_tellsApart_2 : decode cX12_tellsApart 2 = .ok (.putfield 86, 3) := by decide +kernel
theorem dX12_tellsApart_5 : decode cX12_tellsApart 5 = .ok (.iconst (-1), 1) := by decide +kernel
theorem dX12_tellsApart_6 : decode cX12_tellsApart 6 = .ok (.istore_n 1, 1) := by decide +kernel
theorem dX12_tellsApart_7 : decode cX12_tellsApart 7 = .ok (.iconst 0, 1) := by decide +kernel
theorem dX12_tellsApart_8 : decode cX12_tellsApart 8 = .ok (.istore_n 2, 1) := by decide +kernel
theorem dX12_tellsApart_9 : decode cX12_tellsApart 9 = .ok (.iload_n 2, 1) := by decide +kernel
theorem dX12_tellsApart_10 : decode cX12_tellsApart 10 = .ok (.sipush 256, 3) := by decide +kernel
theorem dX12_tellsApart_13 : decode cX12_tellsApart 13 = .ok (.if_icmp .ge 35, 3) := by decide +kernel
theorem dX12_tellsApart_16 : decode cX12_tellsApart 16 = .ok (.iload_n 1, 1) := by decide +kernel
theorem dX12_tellsApart_17 : decode cX12_tellsApart 17 = .ok (.iconst (-1), 1) := by decide +kernel
theorem dX12_tellsApart_18 : decode cX12_tellsApart 18 = .ok (.if_icmp .eq 14, 3) := by decide +kernel
theorem dX12_tellsApart_21 : decode cX12_tellsApart 21 = .ok (.iload_n 2, 1) := by decide +kernel
theorem dX12_tellsApart_22 : decode cX12_tellsApart 22 = .ok (.invokestatic 196, 3) := by decide +kernel
theorem dX12_tellsApart_25 : decode cX12_tellsApart 25 = .ok (.iload_n 1, 1) := by decide +kernel
theorem dX12_tellsApart_26 : decode cX12_tellsApart 26 = .ok (.invokestatic 196, 3) := by decide +kernel
theorem dX12_tellsApart_29 : decode cX12_tellsApart 29 = .ok (.if_icmp .ge 13, 3) := by decide +kernel
theorem dX12_tellsApart_32 : decode cX12_tellsApart 32 = .ok (.aload_n 0, 1) := by decide +kernel
theorem dX12_tellsApart_33 : decode cX12_tellsApart 33 = .ok (.iload_n 2, 1) := by decide +kernel
theorem dX12_tellsApart_34 : decode cX12_tellsApart 34 = .ok (.invokevirtual 319, 3) := by decide +kernel
theorem dX12_tellsApart_37 : decode cX12_tellsApart 37 = .ok (.ifCond .eq 5, 3) := by decide +kernel
theorem dX12_tellsApart_40 : decode cX12_tellsApart 40 = .ok (.iload_n 2, 1) := by decide +kernel
theorem dX12_tellsApart_41 : decode cX12_tellsApart 41 = .ok (.istore_n 1, 1) := by decide +kernel
theorem dX12_tellsApart_42 : decode cX12_tellsApart 42 = .ok (.iinc 2 1, 3) := by decide +kernel
theorem dX12_tellsApart_45 : decode cX12_tellsApart 45 = .ok (.goto (-36), 3) := by decide +kernel
theorem dX12_tellsApart_48 : decode cX12_tellsApart 48 = .ok (.iload_n 1, 1) := by decide +kernel
theorem dX12_tellsApart_49 : decode cX12_tellsApart 49 = .ok (.iconst (-1), 1) := by decide +kernel
theorem dX12_tellsApart_50 : decode cX12_tellsApart 50 = .ok (.if_icmp .ne 6, 3) := by decide +kernel
theorem dX12_tellsApart_53 : decode cX12_tellsApart 53 = .ok (.bipush (-2), 2) := by decide +kernel
theorem dX12_tellsApart_55 : decode cX12_tellsApart 55 = .ok (.ireturn, 1) := by decide +kernel
theorem dX12_tellsApart_56 : decode cX12_tellsApart 56 = .ok (.aload_n 0, 1) := by decide +kernel
theorem dX12_tellsApart_57 : decode cX12_tellsApart 57 = .ok (.iconst 0, 1) := by decide +kernel
theorem dX12_tellsApart_58 : decode cX12_tellsApart 58 = .ok (.putfield 89, 3) := by decide +kernel
theorem dX12_tellsApart_61 : decode cX12_tellsApart 61 = .ok (.aload_n 0, 1) := by decide +kernel
theorem dX12_tellsApart_62 : decode cX12_tellsApart 62 = .ok (.iload_n 1, 1) := by decide +kernel
theorem dX12_tellsApart_63 : decode cX12_tellsApart 63 = .ok (.i2l, 1) := by decide +kernel
theorem dX12_tellsApart_64 : decode cX12_tellsApart 64 = .ok (.invokevirtual 280, 3) := by decide +kernel
theorem dX12_tellsApart_67 : decode cX12_tellsApart 67 = .ok (.iload_n 1, 1) := by decide +kernel
theorem dX12_tellsApart_68 : decode cX12_tellsApart 68 = .ok (.invokestatic 196, 3) := by decide +kernel
theorem dX12_tellsApart_71 : decode cX12_tellsApart 71 = .ok (.ireturn, 1) := by decide +kernel
def fX12_tellsApart_L9 (M : zM) : Nat → Int32 → Int32 → Option Int32
  | 0, _, _ => none
  | n + 1, x1, x2 => if 256 ≤ x2 then (
    some x1)
    else (
    (if x1 = (-1) then (
    (fX12_doTell x2 M).bind fun (r2 : Int32) =>
    if r2 = 0 then (
    some x1)
    else (
    some x2))
    else (
    if (fJ6_bitCount_0f7a4 x1) ≤ (fJ6_bitCount_0f7a4 x2) then (
    some x1)
    else (
    (fX12_doTell x2 M).bind fun (r5 : Int32) =>
    if r5 = 0 then (
    some x1)
    else (
    some x2))) : Option Int32).bind fun (x1_42 : Int32) =>
    fX12_tellsApart_L9 M n x1_42 (x2 + 1))
def fX12_tellsApart  (M : zM) : Option (Int32 × zM) := zlet (zSI M 36 12 0) fun (M2 : zM) =>
  (fX12_tellsApart_L9 M2 4000 (-1) 0).bind fun (x1_48 : Int32) =>
  if x1_48 = (-1) then (
  some ((-2), M2))
  else (
  zlet (zSI M2 36 11 0) fun (M58 : zM) =>
  (fX12_tell x1_48.toInt64 M58).bind fun (M64 : zM) =>
  some (fJ6_bitCount_0f7a4 x1_48, M64))
set_option maxHeartbeats 4000000 in
theorem lX12_tellsApart_9 {E : zE} {Γ : zT} {d : Nat} {K1 : Int32 → Prop} (hC : Cx E Γ RX12 cX12_tellsApart 3 d) (hd : 1 ≤ d) (M : zM) (hx : ∀ (x1_48 : Int32), K1 x1_48 → G E Γ 3 48 [(0, .ref 36), (1, .int x1_48)] [] M) :
    ∀ (n : Nat) (x1 : Int32) (x2 : Int32), wpO (fX12_tellsApart_L9 M n x1 x2) K1 → G E Γ 3 9 [(0, .ref 36), (1, .int x1), (2, .int x2)] [] M := by
  intro n
  induction n with
  | zero =>
    intro x1 x2 h
    exact (wpO_0 h).elim
  | succ n ih =>
    intro x1 x2 h
    rw [fX12_tellsApart_L9.eq_2] at h
    refine g_iload_n (i := 2) (x := x2) hC (dX12_tellsApart_9) rfl rfl ?_
    refine g_sipush (v := 256) hC (dX12_tellsApart_10) ks_256 ?_
    refine g_icmp_ge (tgt := 48) hC (dX12_tellsApart_13) (by decide) (fun c13 => ?_) (fun c13 => ?_)
    · have h := wpO_t c13 h
      refine g_sub (lv' := [(0, .ref 36), (1, .int x1)]) [0, 1] rfl ?_
      exact hx _ (wpO_s h)
    · have h := wpO_f c13 h
      refine g_iload_n (i := 1) (x := x1) hC (dX12_tellsApart_16) rfl rfl ?_
      refine g_iconst (v := (-1)) hC (dX12_tellsApart_17) kc_m1 ?_
      refine wpO_bJ h (fun KJ1 hKJ1 h => ?_)
      have hJ1 : ∀ (x1_42 : Int32), KJ1 x1_42 → G E Γ 3 42 [(0, .ref 36), (1, .int x1_42), (2, .int x2)] [] M := by
        intro x1_42 h
        have h := hKJ1 _ h
        refine g_iinc (x := x2) (v := (x2 + 1)) (lv2 := [(2, .int (x2 + 1)), (0, .ref 36), (1, .int x1_42)]) hC (dX12_tellsApart_42) rfl rfl (by decide) rfl ?_
        refine g_goto (tgt := 9) hC (dX12_tellsApart_45) (by decide) ?_
        refine g_sub (lv' := [(0, .ref 36), (1, .int x1_42), (2, .int (x2 + 1))]) [1, 2, 0] rfl ?_
        exact ih _ _ h
      refine g_icmp_eq (tgt := 32) hC (dX12_tellsApart_18) (by decide) (fun c18 => ?_) (fun c18 => ?_)
      · have h := wpO_t c18 h
        refine g_aload_n (i := 0) (x := 36) hC (dX12_tellsApart_32) rfl rfl ?_
        refine g_iload_n (i := 2) (x := x2) hC (dX12_tellsApart_33) rfl rfl ?_
        have h := wpO_b h
        refine g_callVi ([.int x2]) hC wvX12_319 (dX12_tellsApart_34) rfl rfl (by omega) (Nat.le_of_ble_eq_true rfl) (cX12_doTell_ok (by omega) x2 M h) (fun r2 N q => ?_)
        obtain ⟨rfl, h⟩ := q
        refine g_if_eq (tgt := 42) hC (dX12_tellsApart_37) (by decide) (fun c37 => ?_) (fun c37 => ?_)
        · have h := wpO_t c37 h
          exact hJ1 _ (wpO_s h)
        · have h := wpO_f c37 h
          refine g_iload_n (i := 2) (x := x2) hC (dX12_tellsApart_40) rfl rfl ?_
          refine g_istore_n (i := 1) (lv2 := [(1, .int x2), (0, .ref 36), (2, .int x2)]) hC (dX12_tellsApart_41) rfl (by decide) rfl ?_
          refine g_sub (lv' := [(0, .ref 36), (1, .int x2), (2, .int x2)]) [1, 0, 2] rfl ?_
          exact hJ1 _ (wpO_s h)
      · have h := wpO_f c18 h
        refine g_iload_n (i := 2) (x := x2) hC (dX12_tellsApart_21) rfl rfl ?_
        refine g_callSi ([.int x2]) hC wsX12_196 (dX12_tellsApart_22) rfl (by omega) (Nat.le_of_ble_eq_true rfl) (cJ6_bitCount_0f7a4_ok (by omega) x2 M (K := fun r => r = fJ6_bitCount_0f7a4 x2) rfl) (fun r N q => ?_)
        obtain ⟨rfl, rfl⟩ := q
        refine g_iload_n (i := 1) (x := x1) hC (dX12_tellsApart_25) rfl rfl ?_
        refine g_callSi ([.int x1]) hC wsX12_196 (dX12_tellsApart_26) rfl (by omega) (Nat.le_of_ble_eq_true rfl) (cJ6_bitCount_0f7a4_ok (by omega) x1 M (K := fun r => r = fJ6_bitCount_0f7a4 x1) rfl) (fun r N q => ?_)
        obtain ⟨rfl, rfl⟩ := q
        refine g_icmp_ge (tgt := 42) hC (dX12_tellsApart_29) (by decide) (fun c29 => ?_) (fun c29 => ?_)
        · have h := wpO_t c29 h
          exact hJ1 _ (wpO_s h)
        · have h := wpO_f c29 h
          refine g_aload_n (i := 0) (x := 36) hC (dX12_tellsApart_32) rfl rfl ?_
          refine g_iload_n (i := 2) (x := x2) hC (dX12_tellsApart_33) rfl rfl ?_
          have h := wpO_b h
          refine g_callVi ([.int x2]) hC wvX12_319 (dX12_tellsApart_34) rfl rfl (by omega) (Nat.le_of_ble_eq_true rfl) (cX12_doTell_ok (by omega) x2 M h) (fun r5 N q => ?_)
          obtain ⟨rfl, h⟩ := q
          refine g_if_eq (tgt := 42) hC (dX12_tellsApart_37) (by decide) (fun c37 => ?_) (fun c37 => ?_)
          · have h := wpO_t c37 h
            exact hJ1 _ (wpO_s h)
          · have h := wpO_f c37 h
            refine g_iload_n (i := 2) (x := x2) hC (dX12_tellsApart_40) rfl rfl ?_
            refine g_istore_n (i := 1) (lv2 := [(1, .int x2), (0, .ref 36), (2, .int x2)]) hC (dX12_tellsApart_41) rfl (by decide) rfl ?_
            refine g_sub (lv' := [(0, .ref 36), (1, .int x2), (2, .int x2)]) [1, 0, 2] rfl ?_
            exact hJ1 _ (wpO_s h)
set_option maxHeartbeats 4000000 in
theorem cX12_tellsApart_ok {E : zE} {d : Nat} (hd : 1 ≤ d)  (M : zM) {K : (Int32 × zM) → Prop} (h : wpO (fX12_tellsApart  M) K) : CMi E d yX12_tellsApart cX12_tellsApart 3 (some .int) [.ref 36] M (fun r N => K (r, N)) := by
  refine CMi.of (by decide) (Nat.le_of_ble_eq_true rfl) (fun Γ hC hr => ?_)
  have hC : Cx E Γ RX12 cX12_tellsApart 3 d := hC
  show G E Γ 3 0 [(0, .ref 36)] [] M
  unfold fX12_tellsApart at h
  refine g_aload_n (i := 0) (x := 36) hC (dX12_tellsApart_0) rfl rfl ?_
  refine g_iconst (v := 0) hC (dX12_tellsApart_1) kc_0 ?_
  refine g_putI hC fpX12_86 (dX12_tellsApart_2) rfl rfl rfl rfl ?_
  refine g_nmM (fun M2 e_M2 => ?_)
  have h := wpO_n e_M2 h
  refine g_iconst (v := (-1)) hC (dX12_tellsApart_5) kc_m1 ?_
  refine g_istore_n (i := 1) (lv2 := [(1, .int (-1)), (0, .ref 36)]) hC (dX12_tellsApart_6) rfl (by decide) rfl ?_
  refine g_iconst (v := 0) hC (dX12_tellsApart_7) kc_0 ?_
  refine g_istore_n (i := 2) (lv2 := [(2, .int 0), (1, .int (-1)), (0, .ref 36)]) hC (dX12_tellsApart_8) rfl (by decide) rfl ?_
  refine g_sub (lv' := [(0, .ref 36), (1, .int (-1)), (2, .int 0)]) [2, 1, 0] rfl ?_
  refine wpO_bJ h (fun KL9 hKL9 h => ?_)
  refine lX12_tellsApart_9 (K1 := KL9) hC (by omega) M2 (fun x1_48 h => ?_) _ _ _ h
  have h := hKL9 _ h
  refine g_iload_n (i := 1) (x := x1_48) hC (dX12_tellsApart_48) rfl rfl ?_
  refine g_iconst (v := (-1)) hC (dX12_tellsApart_49) kc_m1 ?_
  refine g_icmp_ne (tgt := 56) hC (dX12_tellsApart_50) (by decide) (fun c50 => ?_) (fun c50 => ?_)
  · have h := wpO_f c50 h
    refine g_aload_n (i := 0) (x := 36) hC (dX12_tellsApart_56) rfl rfl ?_
    refine g_iconst (v := 0) hC (dX12_tellsApart_57) kc_0 ?_
    refine g_putI hC fpX12_89 (dX12_tellsApart_58) rfl rfl rfl rfl ?_
    refine g_nmM (fun M58 e_M58 => ?_)
    have h := wpO_n e_M58 h
    refine g_aload_n (i := 0) (x := 36) hC (dX12_tellsApart_61) rfl rfl ?_
    refine g_iload_n (i := 1) (x := x1_48) hC (dX12_tellsApart_62) rfl rfl ?_
    refine g_i2l hC (dX12_tellsApart_63) ?_
    have h := wpO_b h
    refine g_callVv ([.long x1_48.toInt64]) hC wvX12_280 (dX12_tellsApart_64) rfl rfl (by omega) (Nat.le_of_ble_eq_true rfl) (cX12_tell_ok (by omega) x1_48.toInt64 M58 h) (fun M64 h => ?_)
    refine g_iload_n (i := 1) (x := x1_48) hC (dX12_tellsApart_67) rfl rfl ?_
    refine g_callSi ([.int x1_48]) hC wsX12_196 (dX12_tellsApart_68) rfl (by omega) (Nat.le_of_ble_eq_true rfl) (cJ6_bitCount_0f7a4_ok (by omega) x1_48 M64 (K := fun r => r = fJ6_bitCount_0f7a4 x1_48) rfl) (fun r N q => ?_)
    obtain ⟨rfl, rfl⟩ := q
    refine g_ireturn hC hr (dX12_tellsApart_71) ?_
    exact wpO_s h
  · have h := wpO_t c50 h
    refine g_bipush (v := (-2)) hC (dX12_tellsApart_53) kb_m2 ?_
    refine g_ireturn hC hr (dX12_tellsApart_55) ?_
    exact wpO_s h
