/-! the constructor of the system -/
theorem kt_31 : Cond.methodLink RX11 1 Lib.objectInit ∈ zTb := zTb_t 31 (by decide +kernel) (by decide +kernel)
theorem kt_34 : Cond.classLink RX11 7 RX9 ∈ zTb := zTb_t 34 (by decide +kernel) (by decide +kernel)
theorem kt_35 : Cond.instantiable RX9 2 ∈ zTb := zTb_t 35 (by decide +kernel) (by decide +kernel)
theorem kt_2 : Cond.initialized RX9 ∈ zTb := zTb_t 2 (by decide +kernel) (by decide +kernel)
theorem kt_38 : Cond.code yX9_init cX9_init 1 none ∈ zTb := zTb_t 38 (by decide +kernel) (by decide +kernel)
theorem kt_37 : Cond.instanceMethod yX9_init ∈ zTb := zTb_t 37 (by decide +kernel) (by decide +kernel)
theorem kwX11_9 : kWd RX11 9 yX9_init cX9_init 1 0 := ⟨kt_38, kt_2, kt_37, ⟨by decide, by decide, by decide +kernel⟩, by decide, Or.inr ⟨_, List.mem_of_getElem? (i := 0) rfl⟩⟩
theorem kt_271 : Cond.fieldLink RX11 10 "LostByState" "text" "LLostByState$Text;" ∈ zTb := zTb_t 271 (by decide +kernel) (by decide +kernel)
theorem kf11_10 : kFl RX11 10 11 0 true (.object "LostByState$Text") := ⟨RX11, TX11, 19, tyX11, rfl, by decide, uX11, kt_271, tyX11_ok, nmX11, rfl, by decide +kernel, rfl⟩
theorem kt_52 : Cond.classLink RX11 16 RX3 ∈ zTb := zTb_t 52 (by decide +kernel) (by decide +kernel)
theorem kt_53 : Cond.instantiable RX3 2 ∈ zTb := zTb_t 53 (by decide +kernel) (by decide +kernel)
theorem kt_3 : Cond.initialized RX3 ∈ zTb := zTb_t 3 (by decide +kernel) (by decide +kernel)
theorem kt_56 : Cond.code yX3_init cX3_init 1 none ∈ zTb := zTb_t 56 (by decide +kernel) (by decide +kernel)
theorem kt_55 : Cond.instanceMethod yX3_init ∈ zTb := zTb_t 55 (by decide +kernel) (by decide +kernel)
theorem kwX11_18 : kWd RX11 18 yX3_init cX3_init 1 0 := ⟨kt_56, kt_3, kt_55, ⟨by decide, by decide, by decide +kernel⟩, by decide, Or.inr ⟨_, List.mem_of_getElem? (i := 1) rfl⟩⟩
theorem kt_272 : Cond.fieldLink RX11 19 "LostByState" "told" "LLostByState$Row;" ∈ zTb := zTb_t 272 (by decide +kernel) (by decide +kernel)
theorem kf11_19 : kFl RX11 19 11 1 true (.object "LostByState$Row") := ⟨RX11, TX11, 19, tyX11, rfl, by decide, uX11, kt_272, tyX11_ok, nmX11, rfl, by decide +kernel, rfl⟩
theorem kt_68 : Cond.classLink RX11 23 RX7 ∈ zTb := zTb_t 68 (by decide +kernel) (by decide +kernel)
theorem kt_69 : Cond.instantiable RX7 5 ∈ zTb := zTb_t 69 (by decide +kernel) (by decide +kernel)
theorem kt_4 : Cond.initialized RX7 ∈ zTb := zTb_t 4 (by decide +kernel) (by decide +kernel)
theorem kt_72 : Cond.code yX7_init cX7_init 1 none ∈ zTb := zTb_t 72 (by decide +kernel) (by decide +kernel)
theorem kt_71 : Cond.instanceMethod yX7_init ∈ zTb := zTb_t 71 (by decide +kernel) (by decide +kernel)
theorem kwX11_25 : kWd RX11 25 yX7_init cX7_init 1 0 := ⟨kt_72, kt_4, kt_71, ⟨by decide, by decide, by decide +kernel⟩, by decide, Or.inr ⟨_, List.mem_of_getElem? (i := 2) rfl⟩⟩
theorem kt_273 : Cond.fieldLink RX11 26 "LostByState" "stock" "LLostByState$Stock;" ∈ zTb := zTb_t 273 (by decide +kernel) (by decide +kernel)
theorem kf11_26 : kFl RX11 26 11 2 true (.object "LostByState$Stock") := ⟨RX11, TX11, 19, tyX11, rfl, by decide, uX11, kt_273, tyX11_ok, nmX11, rfl, by decide +kernel, rfl⟩
theorem kt_95 : Cond.classLink RX11 30 RX10 ∈ zTb := zTb_t 95 (by decide +kernel) (by decide +kernel)
theorem kt_97 : Cond.methodLink RX11 32 yX10_init ∈ zTb := zTb_t 97 (by decide +kernel) (by decide +kernel)
theorem kwX11_32 : kWd RX11 32 yX10_init cX10_init 2 0 := ⟨kt_99, kt_5, kt_98, ⟨by decide, by decide, by decide +kernel⟩, by decide, Or.inl kt_97⟩
theorem kt_274 : Cond.fieldLink RX11 33 "LostByState" "now" "LLostByState$Whereabouts;" ∈ zTb := zTb_t 274 (by decide +kernel) (by decide +kernel)
theorem kf11_33 : kFl RX11 33 11 3 true (.object "LostByState$Whereabouts") := ⟨RX11, TX11, 19, tyX11, rfl, by decide, uX11, kt_274, tyX11_ok, nmX11, rfl, by decide +kernel, rfl⟩
theorem kt_275 : Cond.fieldLink RX11 37 "LostByState" "trial" "LLostByState$Whereabouts;" ∈ zTb := zTb_t 275 (by decide +kernel) (by decide +kernel)
theorem kf11_37 : kFl RX11 37 11 4 true (.object "LostByState$Whereabouts") := ⟨RX11, TX11, 19, tyX11, rfl, by decide, uX11, kt_275, tyX11_ok, nmX11, rfl, by decide +kernel, rfl⟩
theorem kt_126 : Cond.classLink RX11 40 RX2 ∈ zTb := zTb_t 126 (by decide +kernel) (by decide +kernel)
theorem kt_127 : Cond.instantiable RX2 3 ∈ zTb := zTb_t 127 (by decide +kernel) (by decide +kernel)
theorem kt_6 : Cond.initialized RX2 ∈ zTb := zTb_t 6 (by decide +kernel) (by decide +kernel)
theorem kt_128 : Cond.methodLink RX11 42 yX2_init ∈ zTb := zTb_t 128 (by decide +kernel) (by decide +kernel)
theorem kt_130 : Cond.code yX2_init cX2_init 2 none ∈ zTb := zTb_t 130 (by decide +kernel) (by decide +kernel)
theorem kt_129 : Cond.instanceMethod yX2_init ∈ zTb := zTb_t 129 (by decide +kernel) (by decide +kernel)
theorem kwX11_42 : kWd RX11 42 yX2_init cX2_init 2 0 := ⟨kt_130, kt_6, kt_129, ⟨by decide, by decide, by decide +kernel⟩, by decide, Or.inl kt_128⟩
theorem kt_276 : Cond.fieldLink RX11 43 "LostByState" "past" "LLostByState$Past;" ∈ zTb := zTb_t 276 (by decide +kernel) (by decide +kernel)
theorem kf11_43 : kFl RX11 43 11 5 true (.object "LostByState$Past") := ⟨RX11, TX11, 19, tyX11, rfl, by decide, uX11, kt_276, tyX11_ok, nmX11, rfl, by decide +kernel, rfl⟩
theorem kt_277 : Cond.fieldLink RX11 47 "LostByState" "kept" "[LLostByState$Whereabouts;" ∈ zTb := zTb_t 277 (by decide +kernel) (by decide +kernel)
theorem kf11_47 : kFl RX11 47 11 6 true (.array (.object "LostByState$Whereabouts")) := ⟨RX11, TX11, 19, tyX11, rfl, by decide, uX11, kt_277, tyX11_ok, nmX11, rfl, by decide +kernel, rfl⟩
theorem kt_278 : Cond.fieldLink RX11 51 "LostByState" "isKept" "[Z" ∈ zTb := zTb_t 278 (by decide +kernel) (by decide +kernel)
theorem kf11_51 : kFl RX11 51 11 7 true (.array .boolean) := ⟨RX11, TX11, 19, tyX11, rfl, by decide, uX11, kt_278, tyX11_ok, nmX11, rfl, by decide +kernel, rfl⟩
theorem kt_146 : Cond.classLink RX11 55 RX4 ∈ zTb := zTb_t 146 (by decide +kernel) (by decide +kernel)
theorem kt_147 : Cond.instantiable RX4 4 ∈ zTb := zTb_t 147 (by decide +kernel) (by decide +kernel)
theorem kt_148 : Cond.methodLink RX11 57 yX4_init ∈ zTb := zTb_t 148 (by decide +kernel) (by decide +kernel)
theorem kt_150 : Cond.code yX4_init cX4_init 1 none ∈ zTb := zTb_t 150 (by decide +kernel) (by decide +kernel)
theorem kt_149 : Cond.instanceMethod yX4_init ∈ zTb := zTb_t 149 (by decide +kernel) (by decide +kernel)
theorem kwX11_57 : kWd RX11 57 yX4_init cX4_init 1 0 := ⟨kt_150, kt_7, kt_149, ⟨by decide, by decide, by decide +kernel⟩, by decide, Or.inl kt_148⟩
theorem kt_279 : Cond.fieldLink RX11 58 "LostByState" "inForce" "LLostByState$Rule;" ∈ zTb := zTb_t 279 (by decide +kernel) (by decide +kernel)
theorem kf11_58 : kFl RX11 58 11 8 true (.object "LostByState$Rule") := ⟨RX11, TX11, 19, tyX11, rfl, by decide, uX11, kt_279, tyX11_ok, nmX11, rfl, by decide +kernel, rfl⟩
theorem kt_280 : Cond.fieldLink RX11 62 "LostByState" "other" "LLostByState$Rule;" ∈ zTb := zTb_t 280 (by decide +kernel) (by decide +kernel)
theorem kf11_62 : kFl RX11 62 11 9 true (.object "LostByState$Rule") := ⟨RX11, TX11, 19, tyX11, rfl, by decide, uX11, kt_280, tyX11_ok, nmX11, rfl, by decide +kernel, rfl⟩
theorem kt_176 : Cond.classLink RX11 65 RX5 ∈ zTb := zTb_t 176 (by decide +kernel) (by decide +kernel)
theorem kt_177 : Cond.instantiable RX5 4 ∈ zTb := zTb_t 177 (by decide +kernel) (by decide +kernel)
theorem kt_9 : Cond.initialized RX5 ∈ zTb := zTb_t 9 (by decide +kernel) (by decide +kernel)
theorem kt_178 : Cond.methodLink RX11 67 yX5_init ∈ zTb := zTb_t 178 (by decide +kernel) (by decide +kernel)
theorem kt_180 : Cond.code yX5_init cX5_init 3 none ∈ zTb := zTb_t 180 (by decide +kernel) (by decide +kernel)
theorem kt_179 : Cond.instanceMethod yX5_init ∈ zTb := zTb_t 179 (by decide +kernel) (by decide +kernel)
theorem kwX11_67 : kWd RX11 67 yX5_init cX5_init 3 2 := ⟨kt_180, kt_9, kt_179, ⟨by decide, by decide, by decide +kernel⟩, by decide, Or.inl kt_178⟩
theorem kt_281 : Cond.fieldLink RX11 70 "LostByState" "ruleReader" "LLostByState$RuleReader;" ∈ zTb := zTb_t 281 (by decide +kernel) (by decide +kernel)
theorem kf11_70 : kFl RX11 70 11 10 true (.object "LostByState$RuleReader") := ⟨RX11, TX11, 19, tyX11, rfl, by decide, uX11, kt_281, tyX11_ok, nmX11, rfl, by decide +kernel, rfl⟩
theorem kt_195 : Cond.classLink RX11 74 RX0 ∈ zTb := zTb_t 195 (by decide +kernel) (by decide +kernel)
theorem kt_196 : Cond.instantiable RX0 4 ∈ zTb := zTb_t 196 (by decide +kernel) (by decide +kernel)
theorem kt_10 : Cond.initialized RX0 ∈ zTb := zTb_t 10 (by decide +kernel) (by decide +kernel)
theorem kt_199 : Cond.code yX0_init cX0_init 1 none ∈ zTb := zTb_t 199 (by decide +kernel) (by decide +kernel)
theorem kt_198 : Cond.instanceMethod yX0_init ∈ zTb := zTb_t 198 (by decide +kernel) (by decide +kernel)
theorem kwX11_76 : kWd RX11 76 yX0_init cX0_init 1 0 := ⟨kt_199, kt_10, kt_198, ⟨by decide, by decide, by decide +kernel⟩, by decide, Or.inr ⟨_, List.mem_of_getElem? (i := 3) rfl⟩⟩
theorem kt_282 : Cond.fieldLink RX11 77 "LostByState" "acts" "LLostByState$Acts;" ∈ zTb := zTb_t 282 (by decide +kernel) (by decide +kernel)
theorem kf11_77 : kFl RX11 77 11 11 true (.object "LostByState$Acts") := ⟨RX11, TX11, 19, tyX11, rfl, by decide, uX11, kt_282, tyX11_ok, nmX11, rfl, by decide +kernel, rfl⟩
theorem kt_218 : Cond.classLink RX11 81 RX6 ∈ zTb := zTb_t 218 (by decide +kernel) (by decide +kernel)
theorem kt_219 : Cond.instantiable RX6 3 ∈ zTb := zTb_t 219 (by decide +kernel) (by decide +kernel)
theorem kt_11 : Cond.initialized RX6 ∈ zTb := zTb_t 11 (by decide +kernel) (by decide +kernel)
theorem kt_222 : Cond.code yX6_init cX6_init 1 none ∈ zTb := zTb_t 222 (by decide +kernel) (by decide +kernel)
theorem kt_221 : Cond.instanceMethod yX6_init ∈ zTb := zTb_t 221 (by decide +kernel) (by decide +kernel)
theorem kwX11_83 : kWd RX11 83 yX6_init cX6_init 1 0 := ⟨kt_222, kt_11, kt_221, ⟨by decide, by decide, by decide +kernel⟩, by decide, Or.inr ⟨_, List.mem_of_getElem? (i := 4) rfl⟩⟩
theorem kt_283 : Cond.fieldLink RX11 84 "LostByState" "sharing" "LLostByState$Sharing;" ∈ zTb := zTb_t 283 (by decide +kernel) (by decide +kernel)
theorem kf11_84 : kFl RX11 84 11 12 true (.object "LostByState$Sharing") := ⟨RX11, TX11, 19, tyX11, rfl, by decide, uX11, kt_283, tyX11_ok, nmX11, rfl, by decide +kernel, rfl⟩
theorem kt_237 : Cond.classLink RX11 88 RX8 ∈ zTb := zTb_t 237 (by decide +kernel) (by decide +kernel)
theorem kt_238 : Cond.instantiable RX8 3 ∈ zTb := zTb_t 238 (by decide +kernel) (by decide +kernel)
theorem kt_12 : Cond.initialized RX8 ∈ zTb := zTb_t 12 (by decide +kernel) (by decide +kernel)
theorem kt_241 : Cond.code yX8_init cX8_init 1 none ∈ zTb := zTb_t 241 (by decide +kernel) (by decide +kernel)
theorem kt_240 : Cond.instanceMethod yX8_init ∈ zTb := zTb_t 240 (by decide +kernel) (by decide +kernel)
theorem kwX11_90 : kWd RX11 90 yX8_init cX8_init 1 0 := ⟨kt_241, kt_12, kt_240, ⟨by decide, by decide, by decide +kernel⟩, by decide, Or.inr ⟨_, List.mem_of_getElem? (i := 5) rfl⟩⟩
theorem kt_284 : Cond.fieldLink RX11 91 "LostByState" "survey" "LLostByState$Survey;" ∈ zTb := zTb_t 284 (by decide +kernel) (by decide +kernel)
theorem kf11_91 : kFl RX11 91 11 13 true (.object "LostByState$Survey") := ⟨RX11, TX11, 19, tyX11, rfl, by decide, uX11, kt_284, tyX11_ok, nmX11, rfl, by decide +kernel, rfl⟩
theorem kt_254 : Cond.classLink RX11 95 RX1 ∈ zTb := zTb_t 254 (by decide +kernel) (by decide +kernel)
theorem kt_255 : Cond.instantiable RX1 3 ∈ zTb := zTb_t 255 (by decide +kernel) (by decide +kernel)
theorem kt_13 : Cond.initialized RX1 ∈ zTb := zTb_t 13 (by decide +kernel) (by decide +kernel)
theorem kt_258 : Cond.code yX1_init cX1_init 1 none ∈ zTb := zTb_t 258 (by decide +kernel) (by decide +kernel)
theorem kt_257 : Cond.instanceMethod yX1_init ∈ zTb := zTb_t 257 (by decide +kernel) (by decide +kernel)
theorem kwX11_97 : kWd RX11 97 yX1_init cX1_init 1 0 := ⟨kt_258, kt_13, kt_257, ⟨by decide, by decide, by decide +kernel⟩, by decide, Or.inr ⟨_, List.mem_of_getElem? (i := 6) rfl⟩⟩
theorem kt_285 : Cond.fieldLink RX11 98 "LostByState" "hearsay" "LLostByState$Hearsay;" ∈ zTb := zTb_t 285 (by decide +kernel) (by decide +kernel)
theorem kf11_98 : kFl RX11 98 11 14 true (.object "LostByState$Hearsay") := ⟨RX11, TX11, 19, tyX11, rfl, by decide, uX11, kt_285, tyX11_ok, nmX11, rfl, by decide +kernel, rfl⟩
theorem kt_286 : Cond.fieldLink RX11 102 "LostByState" "digits" "[I" ∈ zTb := zTb_t 286 (by decide +kernel) (by decide +kernel)
theorem kf11_102 : kFl RX11 102 11 15 true (.array .int) := ⟨RX11, TX11, 19, tyX11, rfl, by decide, uX11, kt_286, tyX11_ok, nmX11, rfl, by decide +kernel, rfl⟩
theorem kt_287 : Cond.fieldLink RX11 106 "LostByState" "drawn" "I" ∈ zTb := zTb_t 287 (by decide +kernel) (by decide +kernel)
theorem kf11_106 : kFl RX11 106 11 16 false (.int) := ⟨RX11, TX11, 19, tyX11, rfl, by decide, uX11, kt_287, tyX11_ok, nmX11, rfl, by decide +kernel, rfl⟩
theorem kt_288 : Cond.fieldLink RX11 110 "LostByState" "term" "I" ∈ zTb := zTb_t 288 (by decide +kernel) (by decide +kernel)
theorem kf11_110 : kFl RX11 110 11 17 false (.int) := ⟨RX11, TX11, 19, tyX11, rfl, by decide, uX11, kt_288, tyX11_ok, nmX11, rfl, by decide +kernel, rfl⟩
theorem kt_289 : Cond.fieldLink RX11 113 "LostByState" "need" "I" ∈ zTb := zTb_t 289 (by decide +kernel) (by decide +kernel)
theorem kf11_113 : kFl RX11 113 11 18 false (.int) := ⟨RX11, TX11, 19, tyX11, rfl, by decide, uX11, kt_289, tyX11_ok, nmX11, rfl, by decide +kernel, rfl⟩
theorem kn_30 : Cond.classLink RX11 30 nWh ∈ zTb := kt_95
theorem k_swap {E : kE} {Γ : zU} {ce sl nL pc : Nat} {lv : List (Nat × Value)} {st : List Value} {a b c : va_W} (k : GC E Γ ce sl nL pc lv st ((a ++ c) ++ b)) : GC E Γ ce sl nL pc lv st ((a ++ b) ++ c) := by
  obtain ⟨p, e, R, s, m, args, below, meth, cd, Q, A⟩ := Γ
  intro ls H locs hl hP hD hS
  exact k ls H locs hl hP.swap hD.swap hS
def bX11 (E : kE) (q : Nat) (u : (Nat → Nat → Nat) × (Nat → Nat → Nat)) : va_W := (q, .inr (11, [.ref (u.1 1 0), .ref (u.1 2 0), .ref (u.1 3 0), .ref (u.1 4 0), .ref (u.1 5 0), .ref (u.1 6 0), .ref (u.1 7 0), .ref (u.1 8 0), .ref (u.1 9 0), .ref (u.1 10 0), .ref (u.1 11 0), .ref (u.1 12 0), .ref (u.1 13 0), .ref (u.1 14 0), .ref (u.1 15 0), .ref (u.1 16 0), .int 0, .int 30, .int 3])) :: ((u.1 7 0), .inl (E.2.2.1 4, 2, .inr (.inr (.inr (.inr (va_up (va_up (fun _ => none) 0 (some (u.1 17 0))) 1 (some (u.1 18 0)))))))) :: ((((((((((((((((([] ++ bX9 E (u.1 1 0) (fun j => u.1 1 (j + 1))) ++ bX3 E (u.1 2 0) (fun j => u.1 2 (j + 1))) ++ bX7 E (u.1 3 0) (fun j => u.1 3 (j + 1))) ++ bX10 E (u.1 4 0) (fun j => u.1 4 (j + 1))) ++ bX10 E (u.1 5 0) (fun j => u.1 5 (j + 1))) ++ bX2 E (u.1 6 0) (u.1 6 1, u.2)) ++ [((u.1 8 0), .inl (E.2.2.1 2, 2, .inl (fun _ => 0)))]) ++ bX4 E (u.1 9 0) (fun j => u.1 9 (j + 1))) ++ bX4 E (u.1 10 0) (fun j => u.1 10 (j + 1))) ++ bX5 E (u.1 11 0) (u.1 1 0) (u.1 10 0) (fun j => u.1 11 (j + 1))) ++ bX0 E (u.1 12 0) (fun j => u.1 12 (j + 1))) ++ bX6 E (u.1 13 0) (fun j => u.1 13 (j + 1))) ++ bX8 E (u.1 14 0) (fun j => u.1 14 (j + 1))) ++ bX1 E (u.1 15 0) (fun j => u.1 15 (j + 1))) ++ [((u.1 16 0), .inl (E.2.2.1 0, 6, .inl (fun _ => 0)))]) ++ bX10 E (u.1 17 0) (fun j => u.1 17 (j + 1))) ++ bX10 E (u.1 18 0) (fun j => u.1 18 (j + 1)))
theorem dX11_init_0 : decode cX11_init 0 = .ok (.aload_n 0, 1) := by decide +kernel
theorem dX11_init_1 : decode cX11_init 1 = .ok (.invokespecial 1, 3) := by decide +kernel
theorem dX11_init_4 : decode cX11_init 4 = .ok (.aload_n 0, 1) := by decide +kernel
theorem dX11_init_5 : decode cX11_init 5 = .ok (.new 7, 3) := by decide +kernel
theorem dX11_init_8 : decode cX11_init 8 = .ok (.dup, 1) := by decide +kernel
theorem dX11_init_9 : decode cX11_init 9 = .ok (.invokespecial 9, 3) := by decide +kernel
theorem dX11_init_12 : decode cX11_init 12 = .ok (.putfield 10, 3) := by decide +kernel
theorem dX11_init_15 : decode cX11_init 15 = .ok (.aload_n 0, 1) := by decide +kernel
theorem dX11_init_16 : decode cX11_init 16 = .ok (.new 16, 3) := by decide +kernel
theorem dX11_init_19 : decode cX11_init 19 = .ok (.dup, 1) := by decide +kernel
theorem dX11_init_20 : decode cX11_init 20 = .ok (.invokespecial 18, 3) := by decide +kernel
theorem dX11_init_23 : decode cX11_init 23 = .ok (.putfield 19, 3) := by decide +kernel
theorem dX11_init_26 : decode cX11_init 26 = .ok (.aload_n 0, 1) := by decide +kernel
theorem dX11_init_27 : decode cX11_init 27 = .ok (.new 23, 3) := by decide +kernel
theorem dX11_init_30 : decode cX11_init 30 = .ok (.dup, 1) := by decide +kernel
theorem dX11_init_31 : decode cX11_init 31 = .ok (.invokespecial 25, 3) := by decide +kernel
theorem dX11_init_34 : decode cX11_init 34 = .ok (.putfield 26, 3) := by decide +kernel
theorem dX11_init_37 : decode cX11_init 37 = .ok (.aload_n 0, 1) := by decide +kernel
theorem dX11_init_38 : decode cX11_init 38 = .ok (.new 30, 3) := by decide +kernel
theorem dX11_init_41 : decode cX11_init 41 = .ok (.dup, 1) := by decide +kernel
theorem dX11_init_42 : decode cX11_init 42 = .ok (.invokespecial 32, 3) := by decide +kernel
theorem dX11_init_45 : decode cX11_init 45 = .ok (.putfield 33, 3) := by decide +kernel
theorem dX11_init_48 : decode cX11_init 48 = .ok (.aload_n 0, 1) := by decide +kernel
theorem dX11_init_49 : decode cX11_init 49 = .ok (.new 30, 3) := by decide +kernel
theorem dX11_init_52 : decode cX11_init 52 = .ok (.dup, 1) := by decide +kernel
theorem dX11_init_53 : decode cX11_init 53 = .ok (.invokespecial 32, 3) := by decide +kernel
theorem dX11_init_56 : decode cX11_init 56 = .ok (.putfield 37, 3) := by decide +kernel
theorem dX11_init_59 : decode cX11_init 59 = .ok (.aload_n 0, 1) := by decide +kernel
theorem dX11_init_60 : decode cX11_init 60 = .ok (.new 40, 3) := by decide +kernel
theorem dX11_init_63 : decode cX11_init 63 = .ok (.dup, 1) := by decide +kernel
theorem dX11_init_64 : decode cX11_init 64 = .ok (.invokespecial 42, 3) := by decide +kernel
theorem dX11_init_67 : decode cX11_init 67 = .ok (.putfield 43, 3) := by decide +kernel
theorem dX11_init_70 : decode cX11_init 70 = .ok (.aload_n 0, 1) := by decide +kernel
theorem dX11_init_71 : decode cX11_init 71 = .ok (.iconst 2, 1) := by decide +kernel
theorem dX11_init_72 : decode cX11_init 72 = .ok (.anewarray 30, 3) := by decide +kernel
theorem dX11_init_75 : decode cX11_init 75 = .ok (.putfield 47, 3) := by decide +kernel
theorem dX11_init_78 : decode cX11_init 78 = .ok (.aload_n 0, 1) := by decide +kernel
theorem dX11_init_79 : decode cX11_init 79 = .ok (.iconst 2, 1) := by decide +kernel
theorem dX11_init_80 : decode cX11_init 80 = .ok (.newarray .boolean, 2) := by decide +kernel
theorem dX11_init_82 : decode cX11_init 82 = .ok (.putfield 51, 3) := by decide +kernel
theorem dX11_init_85 : decode cX11_init 85 = .ok (.aload_n 0, 1) := by decide +kernel
theorem dX11_init_86 : decode cX11_init 86 = .ok (.new 55, 3) := by decide +kernel
theorem dX11_init_89 : decode cX11_init 89 = .ok (.dup, 1) := by decide +kernel
theorem dX11_init_90 : decode cX11_init 90 = .ok (.invokespecial 57, 3) := by decide +kernel
theorem dX11_init_93 : decode cX11_init 93 = .ok (.putfield 58, 3) := by decide +kernel
theorem dX11_init_96 : decode cX11_init 96 = .ok (.aload_n 0, 1) := by decide +kernel
theorem dX11_init_97 : decode cX11_init 97 = .ok (.new 55, 3) := by decide +kernel
theorem dX11_init_100 : decode cX11_init 100 = .ok (.dup, 1) := by decide +kernel
theorem dX11_init_101 : decode cX11_init 101 = .ok (.invokespecial 57, 3) := by decide +kernel
theorem dX11_init_104 : decode cX11_init 104 = .ok (.putfield 62, 3) := by decide +kernel
theorem dX11_init_107 : decode cX11_init 107 = .ok (.aload_n 0, 1) := by decide +kernel
theorem dX11_init_108 : decode cX11_init 108 = .ok (.new 65, 3) := by decide +kernel
theorem dX11_init_111 : decode cX11_init 111 = .ok (.dup, 1) := by decide +kernel
theorem dX11_init_112 : decode cX11_init 112 = .ok (.aload_n 0, 1) := by decide +kernel
theorem dX11_init_113 : decode cX11_init 113 = .ok (.getfield 10, 3) := by decide +kernel
theorem dX11_init_116 : decode cX11_init 116 = .ok (.aload_n 0, 1) := by decide +kernel
theorem dX11_init_117 : decode cX11_init 117 = .ok (.getfield 62, 3) := by decide +kernel
theorem dX11_init_120 : decode cX11_init 120 = .ok (.invokespecial 67, 3) := by decide +kernel
theorem dX11_init_123 : decode cX11_init 123 = .ok (.putfield 70, 3) := by decide +kernel
theorem dX11_init_126 : decode cX11_init 126 = .ok (.aload_n 0, 1) := by decide +kernel
theorem dX11_init_127 : decode cX11_init 127 = .ok (.new 74, 3) := by decide +kernel
theorem dX11_init_130 : decode cX11_init 130 = .ok (.dup, 1) := by decide +kernel
theorem dX11_init_131 : decode cX11_init 131 = .ok (.invokespecial 76, 3) := by decide +kernel
theorem dX11_init_134 : decode cX11_init 134 = .ok (.putfield 77, 3) := by decide +kernel
theorem dX11_init_137 : decode cX11_init 137 = .ok (.aload_n 0, 1) := by decide +kernel
theorem dX11_init_138 : decode cX11_init 138 = .ok (.new 81, 3) := by decide +kernel
theorem dX11_init_141 : decode cX11_init 141 = .ok (.dup, 1) := by decide +kernel
theorem dX11_init_142 : decode cX11_init 142 = .ok (.invokespecial 83, 3) := by decide +kernel
theorem dX11_init_145 : decode cX11_init 145 = .ok (.putfield 84, 3) := by decide +kernel
theorem dX11_init_148 : decode cX11_init 148 = .ok (.aload_n 0, 1) := by decide +kernel
theorem dX11_init_149 : decode cX11_init 149 = .ok (.new 88, 3) := by decide +kernel
theorem dX11_init_152 : decode cX11_init 152 = .ok (.dup, 1) := by decide +kernel
theorem dX11_init_153 : decode cX11_init 153 = .ok (.invokespecial 90, 3) := by decide +kernel
theorem dX11_init_156 : decode cX11_init 156 = .ok (.putfield 91, 3) := by decide +kernel
theorem dX11_init_159 : decode cX11_init 159 = .ok (.aload_n 0, 1) := by decide +kernel
theorem dX11_init_160 : decode cX11_init 160 = .ok (.new 95, 3) := by decide +kernel
theorem dX11_init_163 : decode cX11_init 163 = .ok (.dup, 1) := by decide +kernel
theorem dX11_init_164 : decode cX11_init 164 = .ok (.invokespecial 97, 3) := by decide +kernel
theorem dX11_init_167 : decode cX11_init 167 = .ok (.putfield 98, 3) := by decide +kernel
theorem dX11_init_170 : decode cX11_init 170 = .ok (.aload_n 0, 1) := by decide +kernel
theorem dX11_init_171 : decode cX11_init 171 = .ok (.bipush 6, 2) := by decide +kernel
theorem dX11_init_173 : decode cX11_init 173 = .ok (.newarray .int, 2) := by decide +kernel
theorem dX11_init_175 : decode cX11_init 175 = .ok (.putfield 102, 3) := by decide +kernel
theorem dX11_init_178 : decode cX11_init 178 = .ok (.aload_n 0, 1) := by decide +kernel
theorem dX11_init_179 : decode cX11_init 179 = .ok (.iconst 0, 1) := by decide +kernel
theorem dX11_init_180 : decode cX11_init 180 = .ok (.putfield 106, 3) := by decide +kernel
theorem dX11_init_183 : decode cX11_init 183 = .ok (.aload_n 0, 1) := by decide +kernel
theorem dX11_init_184 : decode cX11_init 184 = .ok (.bipush 30, 2) := by decide +kernel
theorem dX11_init_186 : decode cX11_init 186 = .ok (.putfield 110, 3) := by decide +kernel
theorem dX11_init_189 : decode cX11_init 189 = .ok (.aload_n 0, 1) := by decide +kernel
theorem dX11_init_190 : decode cX11_init 190 = .ok (.iconst 3, 1) := by decide +kernel
theorem dX11_init_191 : decode cX11_init 191 = .ok (.putfield 113, 3) := by decide +kernel
theorem dX11_init_194 : decode cX11_init 194 = .ok (.iconst 0, 1) := by decide +kernel
theorem dX11_init_195 : decode cX11_init 195 = .ok (.istore_n 1, 1) := by decide +kernel
theorem dX11_init_196 : decode cX11_init 196 = .ok (.iload_n 1, 1) := by decide +kernel
theorem dX11_init_197 : decode cX11_init 197 = .ok (.aload_n 0, 1) := by decide +kernel
theorem dX11_init_198 : decode cX11_init 198 = .ok (.getfield 47, 3) := by decide +kernel
theorem dX11_init_201 : decode cX11_init 201 = .ok (.arraylength, 1) := by decide +kernel
theorem dX11_init_202 : decode cX11_init 202 = .ok (.if_icmp .ge 22, 3) := by decide +kernel
theorem dX11_init_205 : decode cX11_init 205 = .ok (.aload_n 0, 1) := by decide +kernel
theorem dX11_init_206 : decode cX11_init 206 = .ok (.getfield 47, 3) := by decide +kernel
theorem dX11_init_209 : decode cX11_init 209 = .ok (.iload_n 1, 1) := by decide +kernel
theorem dX11_init_210 : decode cX11_init 210 = .ok (.new 30, 3) := by decide +kernel
theorem dX11_init_213 : decode cX11_init 213 = .ok (.dup, 1) := by decide +kernel
theorem dX11_init_214 : decode cX11_init 214 = .ok (.invokespecial 32, 3) := by decide +kernel
theorem dX11_init_217 : decode cX11_init 217 = .ok (.aastore, 1) := by decide +kernel
theorem dX11_init_218 : decode cX11_init 218 = .ok (.iinc 1 1, 3) := by decide +kernel
theorem dX11_init_221 : decode cX11_init 221 = .ok (.goto (-25), 3) := by decide +kernel
theorem dX11_init_224 : decode cX11_init 224 = .ok (.return_, 1) := by decide +kernel
set_option maxHeartbeats 4000000 in
theorem cK11 (E : kE) (q : Nat) : CK E 3 120 3525 yX11_init cX11_init 2 [.ref q] [(q, .inr (11, [.null, .null, .null, .null, .null, .null, .null, .null, .null, .null, .null, .null, .null, .null, .null, .null, .int 0, .int 0, .int 0]))] (bX11 E q) := by
  refine CK.of (by decide) (Nat.le_of_ble_eq_true rfl) (fun Γ hC hI hq => ?_)
  have hC : Kx E Γ RX11 cX11_init 2 3 120 3525 := hC
  have hI := hI rfl
  show GC E Γ 0 0 2 0 [(0, .ref q)] [] [(q, .inr (11, [.null, .null, .null, .null, .null, .null, .null, .null, .null, .null, .null, .null, .null, .null, .null, .null, .int 0, .int 0, .int 0]))]
  refine k_aload (i := 0) (x := q) hC dX11_init_0 rfl rfl ?_
  refine k_objInit hC kt_31 kt_32 kt_33 dX11_init_1 (by decide) ?_
  refine k_aload (i := 0) (x := q) hC dX11_init_4 rfl rfl ?_
  refine k_new (ci := 9) (C := RX9) (T := TX9) (N := 2) (fs := [.null, .int 0]) hC uX9 tyX9 tyX9_ok kt_34 kt_35 kt_2 rfl (by decide +kernel) (by decide) (by decide) dX11_init_5 (fun q5 => ?_)
  refine k_dup hC dX11_init_8 rfl ?_
  refine k_init (d' := 1) (mc' := 1) (ms' := 80) [] hC kwX11_9 rfl dX11_init_9 rfl (by decide) (Nat.le_of_ble_eq_true rfl) (by decide) (by decide) (cK9 E q5) (fun f9 => ?_)
  refine k_ws (ws2 := (q, .inr (11, [.null, .null, .null, .null, .null, .null, .null, .null, .null, .null, .null, .null, .null, .null, .null, .null, .int 0, .int 0, .int 0])) :: ([] ++ bX9 E q5 f9)) rfl ?_
  generalize hw9 : ([] ++ bX9 E q5 f9) = w9
  refine k_put (q0 := 0) (fs := [.null, .null, .null, .null, .null, .null, .null, .null, .null, .null, .null, .null, .null, .null, .null, .null, .int 0, .int 0, .int 0]) hC hI kf11_10 dX11_init_12 rfl rfl rfl (Nat.le_of_ble_eq_true rfl) ?_
  refine k_ws (ws2 := (q, .inr (11, [.ref q5, .null, .null, .null, .null, .null, .null, .null, .null, .null, .null, .null, .null, .null, .null, .null, .int 0, .int 0, .int 0])) :: w9) rfl ?_
  refine k_aload (i := 0) (x := q) hC dX11_init_15 rfl rfl ?_
  refine k_new (ci := 3) (C := RX3) (T := TX3) (N := 2) (fs := [.null, .int 0]) hC uX3 tyX3 tyX3_ok kt_52 kt_53 kt_3 rfl (by decide +kernel) (by decide) (by decide) dX11_init_16 (fun q16 => ?_)
  refine k_dup hC dX11_init_19 rfl ?_
  refine k_init (d' := 1) (mc' := 1) (ms' := 16) [] hC kwX11_18 rfl dX11_init_20 rfl (by decide) (Nat.le_of_ble_eq_true rfl) (by decide) (by decide) (cK3 E q16) (fun f20 => ?_)
  refine k_ws (ws2 := (q, .inr (11, [.ref q5, .null, .null, .null, .null, .null, .null, .null, .null, .null, .null, .null, .null, .null, .null, .null, .int 0, .int 0, .int 0])) :: (w9 ++ bX3 E q16 f20)) rfl ?_
  generalize hw20 : (w9 ++ bX3 E q16 f20) = w20
  refine k_put (q0 := 0) (fs := [.ref q5, .null, .null, .null, .null, .null, .null, .null, .null, .null, .null, .null, .null, .null, .null, .null, .int 0, .int 0, .int 0]) hC hI kf11_19 dX11_init_23 rfl rfl rfl (Nat.le_of_ble_eq_true rfl) ?_
  refine k_ws (ws2 := (q, .inr (11, [.ref q5, .ref q16, .null, .null, .null, .null, .null, .null, .null, .null, .null, .null, .null, .null, .null, .null, .int 0, .int 0, .int 0])) :: w20) rfl ?_
  refine k_aload (i := 0) (x := q) hC dX11_init_26 rfl rfl ?_
  refine k_new (ci := 7) (C := RX7) (T := TX7) (N := 5) (fs := [.null, .null, .null, .int 0, .int 0]) hC uX7 tyX7 tyX7_ok kt_68 kt_69 kt_4 rfl (by decide +kernel) (by decide) (by decide) dX11_init_27 (fun q27 => ?_)
  refine k_dup hC dX11_init_30 rfl ?_
  refine k_init (d' := 1) (mc' := 3) (ms' := 22) [] hC kwX11_25 rfl dX11_init_31 rfl (by decide) (Nat.le_of_ble_eq_true rfl) (by decide) (by decide) (cK7 E q27) (fun f31 => ?_)
  refine k_ws (ws2 := (q, .inr (11, [.ref q5, .ref q16, .null, .null, .null, .null, .null, .null, .null, .null, .null, .null, .null, .null, .null, .null, .int 0, .int 0, .int 0])) :: (w20 ++ bX7 E q27 f31)) rfl ?_
  generalize hw31 : (w20 ++ bX7 E q27 f31) = w31
  refine k_put (q0 := 0) (fs := [.ref q5, .ref q16, .null, .null, .null, .null, .null, .null, .null, .null, .null, .null, .null, .null, .null, .null, .int 0, .int 0, .int 0]) hC hI kf11_26 dX11_init_34 rfl rfl rfl (Nat.le_of_ble_eq_true rfl) ?_
  refine k_ws (ws2 := (q, .inr (11, [.ref q5, .ref q16, .ref q27, .null, .null, .null, .null, .null, .null, .null, .null, .null, .null, .null, .null, .null, .int 0, .int 0, .int 0])) :: w31) rfl ?_
  refine k_aload (i := 0) (x := q) hC dX11_init_37 rfl rfl ?_
  refine k_new (ci := 10) (C := RX10) (T := TX10) (N := 6) (fs := [.null, .null, .null, .null, .int 0, .int 0]) hC uX10 tyX10 tyX10_ok kt_95 kt_96 kt_5 rfl (by decide +kernel) (by decide) (by decide) dX11_init_38 (fun q38 => ?_)
  refine k_dup hC dX11_init_41 rfl ?_
  refine k_init (d' := 1) (mc' := 4) (ms' := 32) [] hC kwX11_32 rfl dX11_init_42 rfl (by decide) (Nat.le_of_ble_eq_true rfl) (by decide) (by decide) (cK10 E q38) (fun f42 => ?_)
  refine k_ws (ws2 := (q, .inr (11, [.ref q5, .ref q16, .ref q27, .null, .null, .null, .null, .null, .null, .null, .null, .null, .null, .null, .null, .null, .int 0, .int 0, .int 0])) :: (w31 ++ bX10 E q38 f42)) rfl ?_
  generalize hw42 : (w31 ++ bX10 E q38 f42) = w42
  refine k_put (q0 := 0) (fs := [.ref q5, .ref q16, .ref q27, .null, .null, .null, .null, .null, .null, .null, .null, .null, .null, .null, .null, .null, .int 0, .int 0, .int 0]) hC hI kf11_33 dX11_init_45 rfl rfl rfl (Nat.le_of_ble_eq_true rfl) ?_
  refine k_ws (ws2 := (q, .inr (11, [.ref q5, .ref q16, .ref q27, .ref q38, .null, .null, .null, .null, .null, .null, .null, .null, .null, .null, .null, .null, .int 0, .int 0, .int 0])) :: w42) rfl ?_
  refine k_aload (i := 0) (x := q) hC dX11_init_48 rfl rfl ?_
  refine k_new (ci := 10) (C := RX10) (T := TX10) (N := 6) (fs := [.null, .null, .null, .null, .int 0, .int 0]) hC uX10 tyX10 tyX10_ok kt_95 kt_96 kt_5 rfl (by decide +kernel) (by decide) (by decide) dX11_init_49 (fun q49 => ?_)
  refine k_dup hC dX11_init_52 rfl ?_
  refine k_init (d' := 1) (mc' := 4) (ms' := 32) [] hC kwX11_32 rfl dX11_init_53 rfl (by decide) (Nat.le_of_ble_eq_true rfl) (by decide) (by decide) (cK10 E q49) (fun f53 => ?_)
  refine k_ws (ws2 := (q, .inr (11, [.ref q5, .ref q16, .ref q27, .ref q38, .null, .null, .null, .null, .null, .null, .null, .null, .null, .null, .null, .null, .int 0, .int 0, .int 0])) :: (w42 ++ bX10 E q49 f53)) rfl ?_
  generalize hw53 : (w42 ++ bX10 E q49 f53) = w53
  refine k_put (q0 := 0) (fs := [.ref q5, .ref q16, .ref q27, .ref q38, .null, .null, .null, .null, .null, .null, .null, .null, .null, .null, .null, .null, .int 0, .int 0, .int 0]) hC hI kf11_37 dX11_init_56 rfl rfl rfl (Nat.le_of_ble_eq_true rfl) ?_
  refine k_ws (ws2 := (q, .inr (11, [.ref q5, .ref q16, .ref q27, .ref q38, .ref q49, .null, .null, .null, .null, .null, .null, .null, .null, .null, .null, .null, .int 0, .int 0, .int 0])) :: w53) rfl ?_
  refine k_aload (i := 0) (x := q) hC dX11_init_59 rfl rfl ?_
  refine k_new (ci := 2) (C := RX2) (T := TX2) (N := 3) (fs := [.null, .int 0, .int 0]) hC uX2 tyX2 tyX2_ok kt_126 kt_127 kt_6 rfl (by decide +kernel) (by decide) (by decide) dX11_init_60 (fun q60 => ?_)
  refine k_dup hC dX11_init_63 rfl ?_
  refine k_init (d' := 2) (mc' := 66) (ms' := 507) [] hC kwX11_42 rfl dX11_init_64 rfl (by decide) (Nat.le_of_ble_eq_true rfl) (by decide) (by decide) (cK2 E q60) (fun f64 => ?_)
  refine k_ws (ws2 := (q, .inr (11, [.ref q5, .ref q16, .ref q27, .ref q38, .ref q49, .null, .null, .null, .null, .null, .null, .null, .null, .null, .null, .null, .int 0, .int 0, .int 0])) :: (w53 ++ bX2 E q60 f64)) rfl ?_
  generalize hw64 : (w53 ++ bX2 E q60 f64) = w64
  refine k_put (q0 := 0) (fs := [.ref q5, .ref q16, .ref q27, .ref q38, .ref q49, .null, .null, .null, .null, .null, .null, .null, .null, .null, .null, .null, .int 0, .int 0, .int 0]) hC hI kf11_43 dX11_init_67 rfl rfl rfl (Nat.le_of_ble_eq_true rfl) ?_
  refine k_ws (ws2 := (q, .inr (11, [.ref q5, .ref q16, .ref q27, .ref q38, .ref q49, .ref q60, .null, .null, .null, .null, .null, .null, .null, .null, .null, .null, .int 0, .int 0, .int 0])) :: w64) rfl ?_
  refine k_aload (i := 0) (x := q) hC dX11_init_70 rfl rfl ?_
  refine k_iconst (v := 2) hC dX11_init_71 (by decide +kernel) ?_
  refine k_newq (N' := 2) hC kn_30 (by decide) (by decide +kernel) (by decide) (by decide) (by decide) dX11_init_72 (fun q72 => ?_)
  refine k_swap (a := [(q, .inr (11, [.ref q5, .ref q16, .ref q27, .ref q38, .ref q49, .ref q60, .null, .null, .null, .null, .null, .null, .null, .null, .null, .null, .int 0, .int 0, .int 0]))]) (b := w64) (c := [(q72, .inl (E.2.2.1 4, 2, .inr (.inr (.inr (.inr (fun _ => none))))))]) ?_
  refine k_ws (ws2 := (q, .inr (11, [.ref q5, .ref q16, .ref q27, .ref q38, .ref q49, .ref q60, .null, .null, .null, .null, .null, .null, .null, .null, .null, .null, .int 0, .int 0, .int 0])) :: (q72, .inl (E.2.2.1 4, 2, .inr (.inr (.inr (.inr (fun _ => none)))))) :: w64) rfl ?_
  refine k_put (q0 := 0) (fs := [.ref q5, .ref q16, .ref q27, .ref q38, .ref q49, .ref q60, .null, .null, .null, .null, .null, .null, .null, .null, .null, .null, .int 0, .int 0, .int 0]) hC hI kf11_47 dX11_init_75 rfl rfl rfl (Nat.le_of_ble_eq_true rfl) ?_
  refine k_ws (ws2 := (q, .inr (11, [.ref q5, .ref q16, .ref q27, .ref q38, .ref q49, .ref q60, .ref q72, .null, .null, .null, .null, .null, .null, .null, .null, .null, .int 0, .int 0, .int 0])) :: (q72, .inl (E.2.2.1 4, 2, .inr (.inr (.inr (.inr (fun _ => none)))))) :: w64) rfl ?_
  refine k_aload (i := 0) (x := q) hC dX11_init_78 rfl rfl ?_
  refine k_iconst (v := 2) hC dX11_init_79 (by decide +kernel) ?_
  refine k_newa (t := 2) (N' := 2) (a0 := (2, .inl (fun _ => 0))) (ty := .boolean) hC kt_175 rfl rfl (fun _ => rfl) (by decide) (by decide +kernel) (by decide) (by decide) (by decide) dX11_init_80 (fun q80 => ?_)
  refine k_ws (ws2 := (q, .inr (11, [.ref q5, .ref q16, .ref q27, .ref q38, .ref q49, .ref q60, .ref q72, .null, .null, .null, .null, .null, .null, .null, .null, .null, .int 0, .int 0, .int 0])) :: (q72, .inl (E.2.2.1 4, 2, .inr (.inr (.inr (.inr (fun _ => none)))))) :: (w64 ++ [(q80, .inl (E.2.2.1 2, 2, .inl (fun _ => 0)))])) rfl ?_
  generalize hw80 : (w64 ++ [(q80, .inl (E.2.2.1 2, 2, .inl (fun _ => 0)))]) = w80
  refine k_put (q0 := 0) (fs := [.ref q5, .ref q16, .ref q27, .ref q38, .ref q49, .ref q60, .ref q72, .null, .null, .null, .null, .null, .null, .null, .null, .null, .int 0, .int 0, .int 0]) hC hI kf11_51 dX11_init_82 rfl rfl rfl (Nat.le_of_ble_eq_true rfl) ?_
  refine k_ws (ws2 := (q, .inr (11, [.ref q5, .ref q16, .ref q27, .ref q38, .ref q49, .ref q60, .ref q72, .ref q80, .null, .null, .null, .null, .null, .null, .null, .null, .int 0, .int 0, .int 0])) :: (q72, .inl (E.2.2.1 4, 2, .inr (.inr (.inr (.inr (fun _ => none)))))) :: w80) rfl ?_
  refine k_aload (i := 0) (x := q) hC dX11_init_85 rfl rfl ?_
  refine k_new (ci := 4) (C := RX4) (T := TX4) (N := 4) (fs := [.null, .null, .null, .int 0]) hC uX4 tyX4 tyX4_ok kt_146 kt_147 kt_7 rfl (by decide +kernel) (by decide) (by decide) dX11_init_86 (fun q86 => ?_)
  refine k_dup hC dX11_init_89 rfl ?_
  refine k_init (d' := 2) (mc' := 3) (ms' := 86) [] hC kwX11_57 rfl dX11_init_90 rfl (by decide) (Nat.le_of_ble_eq_true rfl) (by decide) (by decide) (cK4 E q86) (fun f90 => ?_)
  refine k_ws (ws2 := (q, .inr (11, [.ref q5, .ref q16, .ref q27, .ref q38, .ref q49, .ref q60, .ref q72, .ref q80, .null, .null, .null, .null, .null, .null, .null, .null, .int 0, .int 0, .int 0])) :: (q72, .inl (E.2.2.1 4, 2, .inr (.inr (.inr (.inr (fun _ => none)))))) :: (w80 ++ bX4 E q86 f90)) rfl ?_
  generalize hw90 : (w80 ++ bX4 E q86 f90) = w90
  refine k_put (q0 := 0) (fs := [.ref q5, .ref q16, .ref q27, .ref q38, .ref q49, .ref q60, .ref q72, .ref q80, .null, .null, .null, .null, .null, .null, .null, .null, .int 0, .int 0, .int 0]) hC hI kf11_58 dX11_init_93 rfl rfl rfl (Nat.le_of_ble_eq_true rfl) ?_
  refine k_ws (ws2 := (q, .inr (11, [.ref q5, .ref q16, .ref q27, .ref q38, .ref q49, .ref q60, .ref q72, .ref q80, .ref q86, .null, .null, .null, .null, .null, .null, .null, .int 0, .int 0, .int 0])) :: (q72, .inl (E.2.2.1 4, 2, .inr (.inr (.inr (.inr (fun _ => none)))))) :: w90) rfl ?_
  refine k_aload (i := 0) (x := q) hC dX11_init_96 rfl rfl ?_
  refine k_new (ci := 4) (C := RX4) (T := TX4) (N := 4) (fs := [.null, .null, .null, .int 0]) hC uX4 tyX4 tyX4_ok kt_146 kt_147 kt_7 rfl (by decide +kernel) (by decide) (by decide) dX11_init_97 (fun q97 => ?_)
  refine k_dup hC dX11_init_100 rfl ?_
  refine k_init (d' := 2) (mc' := 3) (ms' := 86) [] hC kwX11_57 rfl dX11_init_101 rfl (by decide) (Nat.le_of_ble_eq_true rfl) (by decide) (by decide) (cK4 E q97) (fun f101 => ?_)
  refine k_ws (ws2 := (q, .inr (11, [.ref q5, .ref q16, .ref q27, .ref q38, .ref q49, .ref q60, .ref q72, .ref q80, .ref q86, .null, .null, .null, .null, .null, .null, .null, .int 0, .int 0, .int 0])) :: (q72, .inl (E.2.2.1 4, 2, .inr (.inr (.inr (.inr (fun _ => none)))))) :: (w90 ++ bX4 E q97 f101)) rfl ?_
  generalize hw101 : (w90 ++ bX4 E q97 f101) = w101
  refine k_put (q0 := 0) (fs := [.ref q5, .ref q16, .ref q27, .ref q38, .ref q49, .ref q60, .ref q72, .ref q80, .ref q86, .null, .null, .null, .null, .null, .null, .null, .int 0, .int 0, .int 0]) hC hI kf11_62 dX11_init_104 rfl rfl rfl (Nat.le_of_ble_eq_true rfl) ?_
  refine k_ws (ws2 := (q, .inr (11, [.ref q5, .ref q16, .ref q27, .ref q38, .ref q49, .ref q60, .ref q72, .ref q80, .ref q86, .ref q97, .null, .null, .null, .null, .null, .null, .int 0, .int 0, .int 0])) :: (q72, .inl (E.2.2.1 4, 2, .inr (.inr (.inr (.inr (fun _ => none)))))) :: w101) rfl ?_
  refine k_aload (i := 0) (x := q) hC dX11_init_107 rfl rfl ?_
  refine k_new (ci := 5) (C := RX5) (T := TX5) (N := 4) (fs := [.null, .null, .int 0, .int 0]) hC uX5 tyX5 tyX5_ok kt_176 kt_177 kt_9 rfl (by decide +kernel) (by decide) (by decide) dX11_init_108 (fun q108 => ?_)
  refine k_dup hC dX11_init_111 rfl ?_
  refine k_aload (i := 0) (x := q) hC dX11_init_112 rfl rfl ?_
  refine k_get (q0 := 0) hC kf11_10 dX11_init_113 rfl rfl ?_
  refine k_aload (i := 0) (x := q) hC dX11_init_116 rfl rfl ?_
  refine k_get (q0 := 0) hC kf11_62 dX11_init_117 rfl rfl ?_
  refine k_init (d' := 1) (mc' := 0) (ms' := 0) [.ref q5, .ref q97] hC kwX11_67 rfl dX11_init_120 rfl (by decide) (Nat.le_of_ble_eq_true rfl) (by decide) (by decide) (cK5 E q108 q5 q97) (fun f120 => ?_)
  refine k_ws (ws2 := (q, .inr (11, [.ref q5, .ref q16, .ref q27, .ref q38, .ref q49, .ref q60, .ref q72, .ref q80, .ref q86, .ref q97, .null, .null, .null, .null, .null, .null, .int 0, .int 0, .int 0])) :: (q72, .inl (E.2.2.1 4, 2, .inr (.inr (.inr (.inr (fun _ => none)))))) :: (w101 ++ bX5 E q108 q5 q97 f120)) rfl ?_
  generalize hw120 : (w101 ++ bX5 E q108 q5 q97 f120) = w120
  refine k_put (q0 := 0) (fs := [.ref q5, .ref q16, .ref q27, .ref q38, .ref q49, .ref q60, .ref q72, .ref q80, .ref q86, .ref q97, .null, .null, .null, .null, .null, .null, .int 0, .int 0, .int 0]) hC hI kf11_70 dX11_init_123 rfl rfl rfl (Nat.le_of_ble_eq_true rfl) ?_
  refine k_ws (ws2 := (q, .inr (11, [.ref q5, .ref q16, .ref q27, .ref q38, .ref q49, .ref q60, .ref q72, .ref q80, .ref q86, .ref q97, .ref q108, .null, .null, .null, .null, .null, .int 0, .int 0, .int 0])) :: (q72, .inl (E.2.2.1 4, 2, .inr (.inr (.inr (.inr (fun _ => none)))))) :: w120) rfl ?_
  refine k_aload (i := 0) (x := q) hC dX11_init_126 rfl rfl ?_
  refine k_new (ci := 0) (C := RX0) (T := TX0) (N := 4) (fs := [.null, .null, .null, .int 0]) hC uX0 tyX0 tyX0_ok kt_195 kt_196 kt_10 rfl (by decide +kernel) (by decide) (by decide) dX11_init_127 (fun q127 => ?_)
  refine k_dup hC dX11_init_130 rfl ?_
  refine k_init (d' := 1) (mc' := 3) (ms' := 90) [] hC kwX11_76 rfl dX11_init_131 rfl (by decide) (Nat.le_of_ble_eq_true rfl) (by decide) (by decide) (cK0 E q127) (fun f131 => ?_)
  refine k_ws (ws2 := (q, .inr (11, [.ref q5, .ref q16, .ref q27, .ref q38, .ref q49, .ref q60, .ref q72, .ref q80, .ref q86, .ref q97, .ref q108, .null, .null, .null, .null, .null, .int 0, .int 0, .int 0])) :: (q72, .inl (E.2.2.1 4, 2, .inr (.inr (.inr (.inr (fun _ => none)))))) :: (w120 ++ bX0 E q127 f131)) rfl ?_
  generalize hw131 : (w120 ++ bX0 E q127 f131) = w131
  refine k_put (q0 := 0) (fs := [.ref q5, .ref q16, .ref q27, .ref q38, .ref q49, .ref q60, .ref q72, .ref q80, .ref q86, .ref q97, .ref q108, .null, .null, .null, .null, .null, .int 0, .int 0, .int 0]) hC hI kf11_77 dX11_init_134 rfl rfl rfl (Nat.le_of_ble_eq_true rfl) ?_
  refine k_ws (ws2 := (q, .inr (11, [.ref q5, .ref q16, .ref q27, .ref q38, .ref q49, .ref q60, .ref q72, .ref q80, .ref q86, .ref q97, .ref q108, .ref q127, .null, .null, .null, .null, .int 0, .int 0, .int 0])) :: (q72, .inl (E.2.2.1 4, 2, .inr (.inr (.inr (.inr (fun _ => none)))))) :: w131) rfl ?_
  refine k_aload (i := 0) (x := q) hC dX11_init_137 rfl rfl ?_
  refine k_new (ci := 6) (C := RX6) (T := TX6) (N := 3) (fs := [.null, .null, .null]) hC uX6 tyX6 tyX6_ok kt_218 kt_219 kt_11 rfl (by decide +kernel) (by decide) (by decide) dX11_init_138 (fun q138 => ?_)
  refine k_dup hC dX11_init_141 rfl ?_
  refine k_init (d' := 1) (mc' := 3) (ms' := 1846) [] hC kwX11_83 rfl dX11_init_142 rfl (by decide) (Nat.le_of_ble_eq_true rfl) (by decide) (by decide) (cK6 E q138) (fun f142 => ?_)
  refine k_ws (ws2 := (q, .inr (11, [.ref q5, .ref q16, .ref q27, .ref q38, .ref q49, .ref q60, .ref q72, .ref q80, .ref q86, .ref q97, .ref q108, .ref q127, .null, .null, .null, .null, .int 0, .int 0, .int 0])) :: (q72, .inl (E.2.2.1 4, 2, .inr (.inr (.inr (.inr (fun _ => none)))))) :: (w131 ++ bX6 E q138 f142)) rfl ?_
  generalize hw142 : (w131 ++ bX6 E q138 f142) = w142
  refine k_put (q0 := 0) (fs := [.ref q5, .ref q16, .ref q27, .ref q38, .ref q49, .ref q60, .ref q72, .ref q80, .ref q86, .ref q97, .ref q108, .ref q127, .null, .null, .null, .null, .int 0, .int 0, .int 0]) hC hI kf11_84 dX11_init_145 rfl rfl rfl (Nat.le_of_ble_eq_true rfl) ?_
  refine k_ws (ws2 := (q, .inr (11, [.ref q5, .ref q16, .ref q27, .ref q38, .ref q49, .ref q60, .ref q72, .ref q80, .ref q86, .ref q97, .ref q108, .ref q127, .ref q138, .null, .null, .null, .int 0, .int 0, .int 0])) :: (q72, .inl (E.2.2.1 4, 2, .inr (.inr (.inr (.inr (fun _ => none)))))) :: w142) rfl ?_
  refine k_aload (i := 0) (x := q) hC dX11_init_148 rfl rfl ?_
  refine k_new (ci := 8) (C := RX8) (T := TX8) (N := 3) (fs := [.null, .null, .null]) hC uX8 tyX8 tyX8_ok kt_237 kt_238 kt_12 rfl (by decide +kernel) (by decide) (by decide) dX11_init_149 (fun q149 => ?_)
  refine k_dup hC dX11_init_152 rfl ?_
  refine k_init (d' := 1) (mc' := 3) (ms' := 593) [] hC kwX11_90 rfl dX11_init_153 rfl (by decide) (Nat.le_of_ble_eq_true rfl) (by decide) (by decide) (cK8 E q149) (fun f153 => ?_)
  refine k_ws (ws2 := (q, .inr (11, [.ref q5, .ref q16, .ref q27, .ref q38, .ref q49, .ref q60, .ref q72, .ref q80, .ref q86, .ref q97, .ref q108, .ref q127, .ref q138, .null, .null, .null, .int 0, .int 0, .int 0])) :: (q72, .inl (E.2.2.1 4, 2, .inr (.inr (.inr (.inr (fun _ => none)))))) :: (w142 ++ bX8 E q149 f153)) rfl ?_
  generalize hw153 : (w142 ++ bX8 E q149 f153) = w153
  refine k_put (q0 := 0) (fs := [.ref q5, .ref q16, .ref q27, .ref q38, .ref q49, .ref q60, .ref q72, .ref q80, .ref q86, .ref q97, .ref q108, .ref q127, .ref q138, .null, .null, .null, .int 0, .int 0, .int 0]) hC hI kf11_91 dX11_init_156 rfl rfl rfl (Nat.le_of_ble_eq_true rfl) ?_
  refine k_ws (ws2 := (q, .inr (11, [.ref q5, .ref q16, .ref q27, .ref q38, .ref q49, .ref q60, .ref q72, .ref q80, .ref q86, .ref q97, .ref q108, .ref q127, .ref q138, .ref q149, .null, .null, .int 0, .int 0, .int 0])) :: (q72, .inl (E.2.2.1 4, 2, .inr (.inr (.inr (.inr (fun _ => none)))))) :: w153) rfl ?_
  refine k_aload (i := 0) (x := q) hC dX11_init_159 rfl rfl ?_
  refine k_new (ci := 1) (C := RX1) (T := TX1) (N := 3) (fs := [.int 0, .int 0, .int 0]) hC uX1 tyX1 tyX1_ok kt_254 kt_255 kt_13 rfl (by decide +kernel) (by decide) (by decide) dX11_init_160 (fun q160 => ?_)
  refine k_dup hC dX11_init_163 rfl ?_
  refine k_init (d' := 1) (mc' := 0) (ms' := 0) [] hC kwX11_97 rfl dX11_init_164 rfl (by decide) (Nat.le_of_ble_eq_true rfl) (by decide) (by decide) (cK1 E q160) (fun f164 => ?_)
  refine k_ws (ws2 := (q, .inr (11, [.ref q5, .ref q16, .ref q27, .ref q38, .ref q49, .ref q60, .ref q72, .ref q80, .ref q86, .ref q97, .ref q108, .ref q127, .ref q138, .ref q149, .null, .null, .int 0, .int 0, .int 0])) :: (q72, .inl (E.2.2.1 4, 2, .inr (.inr (.inr (.inr (fun _ => none)))))) :: (w153 ++ bX1 E q160 f164)) rfl ?_
  generalize hw164 : (w153 ++ bX1 E q160 f164) = w164
  refine k_put (q0 := 0) (fs := [.ref q5, .ref q16, .ref q27, .ref q38, .ref q49, .ref q60, .ref q72, .ref q80, .ref q86, .ref q97, .ref q108, .ref q127, .ref q138, .ref q149, .null, .null, .int 0, .int 0, .int 0]) hC hI kf11_98 dX11_init_167 rfl rfl rfl (Nat.le_of_ble_eq_true rfl) ?_
  refine k_ws (ws2 := (q, .inr (11, [.ref q5, .ref q16, .ref q27, .ref q38, .ref q49, .ref q60, .ref q72, .ref q80, .ref q86, .ref q97, .ref q108, .ref q127, .ref q138, .ref q149, .ref q160, .null, .int 0, .int 0, .int 0])) :: (q72, .inl (E.2.2.1 4, 2, .inr (.inr (.inr (.inr (fun _ => none)))))) :: w164) rfl ?_
  refine k_aload (i := 0) (x := q) hC dX11_init_170 rfl rfl ?_
  refine k_bipush (v := 6) hC dX11_init_171 (by decide +kernel) ?_
  refine k_newa (t := 0) (N' := 6) (a0 := (6, .inl (fun _ => 0))) (ty := .int) hC kt_51 rfl rfl (fun _ => rfl) (by decide) (by decide +kernel) (by decide) (by decide) (by decide) dX11_init_173 (fun q173 => ?_)
  refine k_ws (ws2 := (q, .inr (11, [.ref q5, .ref q16, .ref q27, .ref q38, .ref q49, .ref q60, .ref q72, .ref q80, .ref q86, .ref q97, .ref q108, .ref q127, .ref q138, .ref q149, .ref q160, .null, .int 0, .int 0, .int 0])) :: (q72, .inl (E.2.2.1 4, 2, .inr (.inr (.inr (.inr (fun _ => none)))))) :: (w164 ++ [(q173, .inl (E.2.2.1 0, 6, .inl (fun _ => 0)))])) rfl ?_
  generalize hw173 : (w164 ++ [(q173, .inl (E.2.2.1 0, 6, .inl (fun _ => 0)))]) = w173
  refine k_put (q0 := 0) (fs := [.ref q5, .ref q16, .ref q27, .ref q38, .ref q49, .ref q60, .ref q72, .ref q80, .ref q86, .ref q97, .ref q108, .ref q127, .ref q138, .ref q149, .ref q160, .null, .int 0, .int 0, .int 0]) hC hI kf11_102 dX11_init_175 rfl rfl rfl (Nat.le_of_ble_eq_true rfl) ?_
  refine k_ws (ws2 := (q, .inr (11, [.ref q5, .ref q16, .ref q27, .ref q38, .ref q49, .ref q60, .ref q72, .ref q80, .ref q86, .ref q97, .ref q108, .ref q127, .ref q138, .ref q149, .ref q160, .ref q173, .int 0, .int 0, .int 0])) :: (q72, .inl (E.2.2.1 4, 2, .inr (.inr (.inr (.inr (fun _ => none)))))) :: w173) rfl ?_
  refine k_aload (i := 0) (x := q) hC dX11_init_178 rfl rfl ?_
  refine k_iconst (v := 0) hC dX11_init_179 (by decide +kernel) ?_
  refine k_put (q0 := 0) (fs := [.ref q5, .ref q16, .ref q27, .ref q38, .ref q49, .ref q60, .ref q72, .ref q80, .ref q86, .ref q97, .ref q108, .ref q127, .ref q138, .ref q149, .ref q160, .ref q173, .int 0, .int 0, .int 0]) hC hI kf11_106 dX11_init_180 rfl rfl rfl (Nat.le_of_ble_eq_true rfl) ?_
  refine k_ws (ws2 := (q, .inr (11, [.ref q5, .ref q16, .ref q27, .ref q38, .ref q49, .ref q60, .ref q72, .ref q80, .ref q86, .ref q97, .ref q108, .ref q127, .ref q138, .ref q149, .ref q160, .ref q173, .int 0, .int 0, .int 0])) :: (q72, .inl (E.2.2.1 4, 2, .inr (.inr (.inr (.inr (fun _ => none)))))) :: w173) rfl ?_
  refine k_aload (i := 0) (x := q) hC dX11_init_183 rfl rfl ?_
  refine k_bipush (v := 30) hC dX11_init_184 (by decide +kernel) ?_
  refine k_put (q0 := 0) (fs := [.ref q5, .ref q16, .ref q27, .ref q38, .ref q49, .ref q60, .ref q72, .ref q80, .ref q86, .ref q97, .ref q108, .ref q127, .ref q138, .ref q149, .ref q160, .ref q173, .int 0, .int 0, .int 0]) hC hI kf11_110 dX11_init_186 rfl rfl rfl (Nat.le_of_ble_eq_true rfl) ?_
  refine k_ws (ws2 := (q, .inr (11, [.ref q5, .ref q16, .ref q27, .ref q38, .ref q49, .ref q60, .ref q72, .ref q80, .ref q86, .ref q97, .ref q108, .ref q127, .ref q138, .ref q149, .ref q160, .ref q173, .int 0, .int 30, .int 0])) :: (q72, .inl (E.2.2.1 4, 2, .inr (.inr (.inr (.inr (fun _ => none)))))) :: w173) rfl ?_
  refine k_aload (i := 0) (x := q) hC dX11_init_189 rfl rfl ?_
  refine k_iconst (v := 3) hC dX11_init_190 (by decide +kernel) ?_
  refine k_put (q0 := 0) (fs := [.ref q5, .ref q16, .ref q27, .ref q38, .ref q49, .ref q60, .ref q72, .ref q80, .ref q86, .ref q97, .ref q108, .ref q127, .ref q138, .ref q149, .ref q160, .ref q173, .int 0, .int 30, .int 0]) hC hI kf11_113 dX11_init_191 rfl rfl rfl (Nat.le_of_ble_eq_true rfl) ?_
  refine k_ws (ws2 := (q, .inr (11, [.ref q5, .ref q16, .ref q27, .ref q38, .ref q49, .ref q60, .ref q72, .ref q80, .ref q86, .ref q97, .ref q108, .ref q127, .ref q138, .ref q149, .ref q160, .ref q173, .int 0, .int 30, .int 3])) :: (q72, .inl (E.2.2.1 4, 2, .inr (.inr (.inr (.inr (fun _ => none)))))) :: w173) rfl ?_
  refine k_iconst (v := 0) hC dX11_init_194 (by decide +kernel) ?_
  refine k_istore (i := 1) (lv2 := [(1, .int 0), (0, .ref q)]) hC dX11_init_195 rfl (by decide) rfl ?_
  refine k_iload (i := 1) (x := 0) hC dX11_init_196 rfl rfl ?_
  refine k_aload (i := 0) (x := q) hC dX11_init_197 rfl rfl ?_
  refine k_get (q0 := 0) hC kf11_47 dX11_init_198 rfl rfl ?_
  refine k_alenq (q0 := 1) (v := 2) hC dX11_init_201 rfl (by decide +kernel) ?_
  refine k_icmp_ge (tgt := 224) hC dX11_init_202 (by decide) (fun z => absurd z (by decide)) (fun _ => ?_)
  refine k_aload (i := 0) (x := q) hC dX11_init_205 rfl rfl ?_
  refine k_get (q0 := 0) hC kf11_47 dX11_init_206 rfl rfl ?_
  refine k_iload (i := 1) (x := 0) hC dX11_init_209 rfl rfl ?_
  refine k_new (ci := 10) (C := RX10) (T := TX10) (N := 6) (fs := [.null, .null, .null, .null, .int 0, .int 0]) hC uX10 tyX10 tyX10_ok kt_95 kt_96 kt_5 rfl (by decide +kernel) (by decide) (by decide) dX11_init_210 (fun qa0 => ?_)
  refine k_dup hC dX11_init_213 rfl ?_
  refine k_init (d' := 1) (mc' := 4) (ms' := 32) [] hC kwX11_32 rfl dX11_init_214 rfl (by decide) (Nat.le_of_ble_eq_true rfl) (by decide) (by decide) (cK10 E qa0) (fun fa0 => ?_)
  refine k_astq (q0 := 1) (qk := (((q, .inr (11, [.ref q5, .ref q16, .ref q27, .ref q38, .ref q49, .ref q60, .ref q72, .ref q80, .ref q86, .ref q97, .ref q108, .ref q127, .ref q138, .ref q149, .ref q160, .ref q173, .int 0, .int 30, .int 3])) :: (q72, .inl (E.2.2.1 4, 2, .inr (.inr (.inr (.inr (fun _ => none)))))) :: w173) : va_W).length) hC dX11_init_217 rfl at_len (by decide) ?_
  refine k_ws (ws2 := (q, .inr (11, [.ref q5, .ref q16, .ref q27, .ref q38, .ref q49, .ref q60, .ref q72, .ref q80, .ref q86, .ref q97, .ref q108, .ref q127, .ref q138, .ref q149, .ref q160, .ref q173, .int 0, .int 30, .int 3])) :: (q72, .inl (E.2.2.1 4, 2, .inr (.inr (.inr (.inr (va_up (fun _ => none) 0 (some qa0))))))) :: (w173 ++ bX10 E qa0 fa0)) rfl ?_
  generalize hwa0 : (w173 ++ bX10 E qa0 fa0) = wa0
  refine k_iinc (x := 0) (v := 1) (lv2 := [(1, .int 1), (0, .ref q)]) hC dX11_init_218 rfl (by decide +kernel) (by decide) rfl ?_
  refine k_goto (tgt := 196) hC dX11_init_221 (by decide) ?_
  refine k_iload (i := 1) (x := 1) hC dX11_init_196 rfl rfl ?_
  refine k_aload (i := 0) (x := q) hC dX11_init_197 rfl rfl ?_
  refine k_get (q0 := 0) hC kf11_47 dX11_init_198 rfl rfl ?_
  refine k_alenq (q0 := 1) (v := 2) hC dX11_init_201 rfl (by decide +kernel) ?_
  refine k_icmp_ge (tgt := 224) hC dX11_init_202 (by decide) (fun z => absurd z (by decide)) (fun _ => ?_)
  refine k_aload (i := 0) (x := q) hC dX11_init_205 rfl rfl ?_
  refine k_get (q0 := 0) hC kf11_47 dX11_init_206 rfl rfl ?_
  refine k_iload (i := 1) (x := 1) hC dX11_init_209 rfl rfl ?_
  refine k_new (ci := 10) (C := RX10) (T := TX10) (N := 6) (fs := [.null, .null, .null, .null, .int 0, .int 0]) hC uX10 tyX10 tyX10_ok kt_95 kt_96 kt_5 rfl (by decide +kernel) (by decide) (by decide) dX11_init_210 (fun qa1 => ?_)
  refine k_dup hC dX11_init_213 rfl ?_
  refine k_init (d' := 1) (mc' := 4) (ms' := 32) [] hC kwX11_32 rfl dX11_init_214 rfl (by decide) (Nat.le_of_ble_eq_true rfl) (by decide) (by decide) (cK10 E qa1) (fun fa1 => ?_)
  refine k_astq (q0 := 1) (qk := (((q, .inr (11, [.ref q5, .ref q16, .ref q27, .ref q38, .ref q49, .ref q60, .ref q72, .ref q80, .ref q86, .ref q97, .ref q108, .ref q127, .ref q138, .ref q149, .ref q160, .ref q173, .int 0, .int 30, .int 3])) :: (q72, .inl (E.2.2.1 4, 2, .inr (.inr (.inr (.inr (va_up (fun _ => none) 0 (some qa0))))))) :: wa0) : va_W).length) hC dX11_init_217 rfl at_len (by decide) ?_
  refine k_ws (ws2 := (q, .inr (11, [.ref q5, .ref q16, .ref q27, .ref q38, .ref q49, .ref q60, .ref q72, .ref q80, .ref q86, .ref q97, .ref q108, .ref q127, .ref q138, .ref q149, .ref q160, .ref q173, .int 0, .int 30, .int 3])) :: (q72, .inl (E.2.2.1 4, 2, .inr (.inr (.inr (.inr (va_up (va_up (fun _ => none) 0 (some qa0)) 1 (some qa1))))))) :: (wa0 ++ bX10 E qa1 fa1)) rfl ?_
  generalize hwa1 : (wa0 ++ bX10 E qa1 fa1) = wa1
  refine k_iinc (x := 1) (v := 2) (lv2 := [(1, .int 2), (0, .ref q)]) hC dX11_init_218 rfl (by decide +kernel) (by decide) rfl ?_
  refine k_goto (tgt := 196) hC dX11_init_221 (by decide) ?_
  refine k_iload (i := 1) (x := 2) hC dX11_init_196 rfl rfl ?_
  refine k_aload (i := 0) (x := q) hC dX11_init_197 rfl rfl ?_
  refine k_get (q0 := 0) hC kf11_47 dX11_init_198 rfl rfl ?_
  refine k_alenq (q0 := 1) (v := 2) hC dX11_init_201 rfl (by decide +kernel) ?_
  refine k_icmp_ge (tgt := 224) hC dX11_init_202 (by decide) (fun _ => ?_) (fun z => absurd (by decide) z)
  subst hw9 hw20 hw31 hw42 hw53 hw64 hw80 hw90 hw101 hw120 hw131 hw142 hw153 hw164 hw173 hwa0 hwa1
  exact k_vret hC hq (by decide) (by decide) dX11_init_224 (fun b => ([fun _ => 0, kc q5 f9, kc q16 f20, kc q27 f31, kc q38 f42, kc q49 f53, kc q60 (fun _ => f64.1), fun _ => q72, fun _ => q80, kc q86 f90, kc q97 f101, kc q108 f120, kc q127 f131, kc q138 f142, kc q149 f153, kc q160 f164, fun _ => q173, kc qa0 fa0, kc qa1 fa1] : List (Nat → Nat)).getD b (fun _ => 0), f64.2) rfl
