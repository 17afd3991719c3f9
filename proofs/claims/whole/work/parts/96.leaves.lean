/-! the constructors of the small ones -/
theorem kt_200 : Cond.methodLink RX0 3 Lib.objectInit ∈ zTb := zTb_t 200 (by decide +kernel) (by decide +kernel)
theorem kt_32 : Cond.instanceMethod Lib.objectInit ∈ zTb := zTb_t 32 (by decide +kernel) (by decide +kernel)
theorem kt_33 : Cond.code Lib.objectInit ⟨#[0xb1]⟩ 1 none ∈ zTb := zTb_t 33 (by decide +kernel) (by decide +kernel)
theorem kt_51 : Cond.arrayClass (newarray.typeOf .int) ∈ zTb := zTb_t 51 (by decide +kernel) (by decide +kernel)
theorem kt_201 : Cond.fieldLink RX0 11 "LostByState$Acts" "kinds" "[I" ∈ zTb := zTb_t 201 (by decide +kernel) (by decide +kernel)
theorem kf0_11 : kFl RX0 11 0 0 true (.array .int) := ⟨RX0, TX0, 4, tyX0, rfl, by decide, uX0, kt_201, tyX0_ok, nmX0, rfl, by decide +kernel, rfl⟩
theorem kt_203 : Cond.fieldLink RX0 15 "LostByState$Acts" "first" "[I" ∈ zTb := zTb_t 203 (by decide +kernel) (by decide +kernel)
theorem kf0_15 : kFl RX0 15 0 1 true (.array .int) := ⟨RX0, TX0, 4, tyX0, rfl, by decide, uX0, kt_203, tyX0_ok, nmX0, rfl, by decide +kernel, rfl⟩
theorem kt_205 : Cond.fieldLink RX0 18 "LostByState$Acts" "second" "[I" ∈ zTb := zTb_t 205 (by decide +kernel) (by decide +kernel)
theorem kf0_18 : kFl RX0 18 0 2 true (.array .int) := ⟨RX0, TX0, 4, tyX0, rfl, by decide, uX0, kt_205, tyX0_ok, nmX0, rfl, by decide +kernel, rfl⟩
theorem kt_207 : Cond.fieldLink RX0 21 "LostByState$Acts" "many" "I" ∈ zTb := zTb_t 207 (by decide +kernel) (by decide +kernel)
theorem kf0_21 : kFl RX0 21 0 3 false (.int) := ⟨RX0, TX0, 4, tyX0, rfl, by decide, uX0, kt_207, tyX0_ok, nmX0, rfl, by decide +kernel, rfl⟩
def bX0 (E : kE) (q : Nat) (f : Nat → Nat) : va_W := [(q, .inr (0, [.ref (f 0), .ref (f 1), .ref (f 2), .int 0])), ((f 0), .inl (E.2.2.1 0, 30, .inl (fun _ => 0))), ((f 1), .inl (E.2.2.1 0, 30, .inl (fun _ => 0))), ((f 2), .inl (E.2.2.1 0, 30, .inl (fun _ => 0)))]
theorem kt_259 : Cond.methodLink RX1 1 Lib.objectInit ∈ zTb := zTb_t 259 (by decide +kernel) (by decide +kernel)
theorem kt_260 : Cond.fieldLink RX1 7 "LostByState$Hearsay" "has" "I" ∈ zTb := zTb_t 260 (by decide +kernel) (by decide +kernel)
theorem kf1_7 : kFl RX1 7 1 0 false (.int) := ⟨RX1, TX1, 3, tyX1, rfl, by decide, uX1, kt_260, tyX1_ok, nmX1, rfl, by decide +kernel, rfl⟩
theorem kt_261 : Cond.fieldLink RX1 13 "LostByState$Hearsay" "hasNot" "I" ∈ zTb := zTb_t 261 (by decide +kernel) (by decide +kernel)
theorem kf1_13 : kFl RX1 13 1 1 false (.int) := ⟨RX1, TX1, 3, tyX1, rfl, by decide, uX1, kt_261, tyX1_ok, nmX1, rfl, by decide +kernel, rfl⟩
theorem kt_262 : Cond.fieldLink RX1 16 "LostByState$Hearsay" "many" "I" ∈ zTb := zTb_t 262 (by decide +kernel) (by decide +kernel)
theorem kf1_16 : kFl RX1 16 1 2 false (.int) := ⟨RX1, TX1, 3, tyX1, rfl, by decide, uX1, kt_262, tyX1_ok, nmX1, rfl, by decide +kernel, rfl⟩
def bX1 (E : kE) (q : Nat) (f : Nat → Nat) : va_W := [(q, .inr (1, [.int 0, .int 0, .int 0]))]
theorem kt_57 : Cond.methodLink RX3 1 Lib.objectInit ∈ zTb := zTb_t 57 (by decide +kernel) (by decide +kernel)
theorem kt_67 : Cond.arrayClass (newarray.typeOf .long) ∈ zTb := zTb_t 67 (by decide +kernel) (by decide +kernel)
theorem kt_58 : Cond.fieldLink RX3 7 "LostByState$Row" "numbers" "[J" ∈ zTb := zTb_t 58 (by decide +kernel) (by decide +kernel)
theorem kf3_7 : kFl RX3 7 3 0 true (.array .long) := ⟨RX3, TX3, 2, tyX3, rfl, by decide, uX3, kt_58, tyX3_ok, nmX3, rfl, by decide +kernel, rfl⟩
theorem kt_60 : Cond.fieldLink RX3 13 "LostByState$Row" "many" "I" ∈ zTb := zTb_t 60 (by decide +kernel) (by decide +kernel)
theorem kf3_13 : kFl RX3 13 3 1 false (.int) := ⟨RX3, TX3, 2, tyX3, rfl, by decide, uX3, kt_60, tyX3_ok, nmX3, rfl, by decide +kernel, rfl⟩
def bX3 (E : kE) (q : Nat) (f : Nat → Nat) : va_W := [(q, .inr (3, [.ref (f 0), .int 0])), ((f 0), .inl (E.2.2.1 1, 16, .inr (.inl (fun _ => 0))))]
theorem kt_223 : Cond.methodLink RX6 3 Lib.objectInit ∈ zTb := zTb_t 223 (by decide +kernel) (by decide +kernel)
theorem kt_224 : Cond.fieldLink RX6 9 "LostByState$Sharing" "described" "[I" ∈ zTb := zTb_t 224 (by decide +kernel) (by decide +kernel)
theorem kf6_9 : kFl RX6 9 6 0 true (.array .int) := ⟨RX6, TX6, 3, tyX6, rfl, by decide, uX6, kt_224, tyX6_ok, nmX6, rfl, by decide +kernel, rfl⟩
theorem kt_226 : Cond.fieldLink RX6 15 "LostByState$Sharing" "gain" "[I" ∈ zTb := zTb_t 226 (by decide +kernel) (by decide +kernel)
theorem kf6_15 : kFl RX6 15 6 1 true (.array .int) := ⟨RX6, TX6, 3, tyX6, rfl, by decide, uX6, kt_226, tyX6_ok, nmX6, rfl, by decide +kernel, rfl⟩
theorem kt_228 : Cond.fieldLink RX6 18 "LostByState$Sharing" "best" "[I" ∈ zTb := zTb_t 228 (by decide +kernel) (by decide +kernel)
theorem kf6_18 : kFl RX6 18 6 2 true (.array .int) := ⟨RX6, TX6, 3, tyX6, rfl, by decide, uX6, kt_228, tyX6_ok, nmX6, rfl, by decide +kernel, rfl⟩
def bX6 (E : kE) (q : Nat) (f : Nat → Nat) : va_W := [(q, .inr (6, [.ref (f 0), .ref (f 1), .ref (f 2)])), ((f 0), .inl (E.2.2.1 0, 6, .inl (fun _ => 0))), ((f 1), .inl (E.2.2.1 0, 48, .inl (fun _ => 0))), ((f 2), .inl (E.2.2.1 0, 1792, .inl (fun _ => 0)))]
theorem kt_73 : Cond.methodLink RX7 3 Lib.objectInit ∈ zTb := zTb_t 73 (by decide +kernel) (by decide +kernel)
theorem kt_74 : Cond.fieldLink RX7 9 "LostByState$Stock" "marks" "[I" ∈ zTb := zTb_t 74 (by decide +kernel) (by decide +kernel)
theorem kf7_9 : kFl RX7 9 7 0 true (.array .int) := ⟨RX7, TX7, 5, tyX7, rfl, by decide, uX7, kt_74, tyX7_ok, nmX7, rfl, by decide +kernel, rfl⟩
theorem kt_76 : Cond.fieldLink RX7 15 "LostByState$Stock" "worths" "[I" ∈ zTb := zTb_t 76 (by decide +kernel) (by decide +kernel)
theorem kf7_15 : kFl RX7 15 7 1 true (.array .int) := ⟨RX7, TX7, 5, tyX7, rfl, by decide, uX7, kt_76, tyX7_ok, nmX7, rfl, by decide +kernel, rfl⟩
theorem kt_78 : Cond.fieldLink RX7 18 "LostByState$Stock" "needs" "[I" ∈ zTb := zTb_t 78 (by decide +kernel) (by decide +kernel)
theorem kf7_18 : kFl RX7 18 7 2 true (.array .int) := ⟨RX7, TX7, 5, tyX7, rfl, by decide, uX7, kt_78, tyX7_ok, nmX7, rfl, by decide +kernel, rfl⟩
theorem kt_80 : Cond.fieldLink RX7 21 "LostByState$Stock" "thingMany" "I" ∈ zTb := zTb_t 80 (by decide +kernel) (by decide +kernel)
theorem kf7_21 : kFl RX7 21 7 3 false (.int) := ⟨RX7, TX7, 5, tyX7, rfl, by decide, uX7, kt_80, tyX7_ok, nmX7, rfl, by decide +kernel, rfl⟩
theorem kt_82 : Cond.fieldLink RX7 25 "LostByState$Stock" "deedMany" "I" ∈ zTb := zTb_t 82 (by decide +kernel) (by decide +kernel)
theorem kf7_25 : kFl RX7 25 7 4 false (.int) := ⟨RX7, TX7, 5, tyX7, rfl, by decide, uX7, kt_82, tyX7_ok, nmX7, rfl, by decide +kernel, rfl⟩
def bX7 (E : kE) (q : Nat) (f : Nat → Nat) : va_W := [(q, .inr (7, [.ref (f 0), .ref (f 1), .ref (f 2), .int 0, .int 0])), ((f 0), .inl (E.2.2.1 0, 8, .inl (fun _ => 0))), ((f 1), .inl (E.2.2.1 0, 8, .inl (fun _ => 0))), ((f 2), .inl (E.2.2.1 0, 6, .inl (fun _ => 0)))]
theorem kt_242 : Cond.methodLink RX8 3 Lib.objectInit ∈ zTb := zTb_t 242 (by decide +kernel) (by decide +kernel)
theorem kt_243 : Cond.fieldLink RX8 9 "LostByState$Survey" "got" "[I" ∈ zTb := zTb_t 243 (by decide +kernel) (by decide +kernel)
theorem kf8_9 : kFl RX8 9 8 0 true (.array .int) := ⟨RX8, TX8, 3, tyX8, rfl, by decide, uX8, kt_243, tyX8_ok, nmX8, rfl, by decide +kernel, rfl⟩
theorem kt_245 : Cond.fieldLink RX8 15 "LostByState$Survey" "most" "[I" ∈ zTb := zTb_t 245 (by decide +kernel) (by decide +kernel)
theorem kf8_15 : kFl RX8 15 8 1 true (.array .int) := ⟨RX8, TX8, 3, tyX8, rfl, by decide, uX8, kt_245, tyX8_ok, nmX8, rfl, by decide +kernel, rfl⟩
theorem kt_246 : Cond.fieldLink RX8 18 "LostByState$Survey" "matches" "[I" ∈ zTb := zTb_t 246 (by decide +kernel) (by decide +kernel)
theorem kf8_18 : kFl RX8 18 8 2 true (.array .int) := ⟨RX8, TX8, 3, tyX8, rfl, by decide, uX8, kt_246, tyX8_ok, nmX8, rfl, by decide +kernel, rfl⟩
def bX8 (E : kE) (q : Nat) (f : Nat → Nat) : va_W := [(q, .inr (8, [.ref (f 0), .ref (f 1), .ref (f 2)])), ((f 0), .inl (E.2.2.1 0, 256, .inl (fun _ => 0))), ((f 1), .inl (E.2.2.1 0, 256, .inl (fun _ => 0))), ((f 2), .inl (E.2.2.1 0, 81, .inl (fun _ => 0)))]
theorem kt_39 : Cond.methodLink RX9 3 Lib.objectInit ∈ zTb := zTb_t 39 (by decide +kernel) (by decide +kernel)
theorem kt_40 : Cond.fieldLink RX9 9 "LostByState$Text" "signs" "[I" ∈ zTb := zTb_t 40 (by decide +kernel) (by decide +kernel)
theorem kf9_9 : kFl RX9 9 9 0 true (.array .int) := ⟨RX9, TX9, 2, tyX9, rfl, by decide, uX9, kt_40, tyX9_ok, nmX9, rfl, by decide +kernel, rfl⟩
theorem kt_41 : Cond.fieldLink RX9 15 "LostByState$Text" "size" "I" ∈ zTb := zTb_t 41 (by decide +kernel) (by decide +kernel)
theorem kf9_15 : kFl RX9 15 9 1 false (.int) := ⟨RX9, TX9, 2, tyX9, rfl, by decide, uX9, kt_41, tyX9_ok, nmX9, rfl, by decide +kernel, rfl⟩
def bX9 (E : kE) (q : Nat) (f : Nat → Nat) : va_W := [(q, .inr (9, [.ref (f 0), .int 0])), ((f 0), .inl (E.2.2.1 0, 80, .inl (fun _ => 0)))]
theorem kt_181 : Cond.methodLink RX5 3 Lib.objectInit ∈ zTb := zTb_t 181 (by decide +kernel) (by decide +kernel)
theorem kt_184 : Cond.fieldLink RX5 9 "LostByState$RuleReader" "stop" "I" ∈ zTb := zTb_t 184 (by decide +kernel) (by decide +kernel)
theorem kf5_9 : kFl RX5 9 5 2 false (.int) := ⟨RX5, TX5, 4, tyX5, rfl, by decide, uX5, kt_184, tyX5_ok, nmX5, rfl, by decide +kernel, rfl⟩
theorem kt_185 : Cond.fieldLink RX5 15 "LostByState$RuleReader" "p" "I" ∈ zTb := zTb_t 185 (by decide +kernel) (by decide +kernel)
theorem kf5_15 : kFl RX5 15 5 3 false (.int) := ⟨RX5, TX5, 4, tyX5, rfl, by decide, uX5, kt_185, tyX5_ok, nmX5, rfl, by decide +kernel, rfl⟩
theorem kt_182 : Cond.fieldLink RX5 18 "LostByState$RuleReader" "text" "LLostByState$Text;" ∈ zTb := zTb_t 182 (by decide +kernel) (by decide +kernel)
theorem kf5_18 : kFl RX5 18 5 0 true (.object "LostByState$Text") := ⟨RX5, TX5, 4, tyX5, rfl, by decide, uX5, kt_182, tyX5_ok, nmX5, rfl, by decide +kernel, rfl⟩
theorem kt_183 : Cond.fieldLink RX5 22 "LostByState$RuleReader" "into" "LLostByState$Rule;" ∈ zTb := zTb_t 183 (by decide +kernel) (by decide +kernel)
theorem kf5_22 : kFl RX5 22 5 1 true (.object "LostByState$Rule") := ⟨RX5, TX5, 4, tyX5, rfl, by decide, uX5, kt_183, tyX5_ok, nmX5, rfl, by decide +kernel, rfl⟩
def bX5 (E : kE) (q x1 x2 : Nat) (f : Nat → Nat) : va_W := [(q, .inr (5, [.ref x1, .ref x2, .int 0, .int 0]))]
theorem kt_1101 : Cond.methodLink RX12 3 Lib.objectInit ∈ zTb := zTb_t 1101 (by decide +kernel) (by decide +kernel)
theorem kt_1102 : Cond.fieldLink RX12 9 "LostByStateModel" "now" "[I" ∈ zTb := zTb_t 1102 (by decide +kernel) (by decide +kernel)
theorem kf12_9 : kFl RX12 9 12 0 true (.array .int) := ⟨RX12, TX12, 41, tyX12, rfl, by decide, uX12, kt_1102, tyX12_ok, nmX12, rfl, by decide +kernel, rfl⟩
theorem kt_1105 : Cond.fieldLink RX12 13 "LostByStateModel" "term" "I" ∈ zTb := zTb_t 1105 (by decide +kernel) (by decide +kernel)
theorem kf12_13 : kFl RX12 13 12 3 false (.int) := ⟨RX12, TX12, 41, tyX12, rfl, by decide, uX12, kt_1105, tyX12_ok, nmX12, rfl, by decide +kernel, rfl⟩
theorem kt_1106 : Cond.fieldLink RX12 17 "LostByStateModel" "need0" "I" ∈ zTb := zTb_t 1106 (by decide +kernel) (by decide +kernel)
theorem kf12_17 : kFl RX12 17 12 4 false (.int) := ⟨RX12, TX12, 41, tyX12, rfl, by decide, uX12, kt_1106, tyX12_ok, nmX12, rfl, by decide +kernel, rfl⟩
theorem kt_1107 : Cond.fieldLink RX12 20 "LostByStateModel" "marks" "[I" ∈ zTb := zTb_t 1107 (by decide +kernel) (by decide +kernel)
theorem kf12_20 : kFl RX12 20 12 5 true (.array .int) := ⟨RX12, TX12, 41, tyX12, rfl, by decide, uX12, kt_1107, tyX12_ok, nmX12, rfl, by decide +kernel, rfl⟩
theorem kt_1108 : Cond.fieldLink RX12 23 "LostByStateModel" "worth" "[I" ∈ zTb := zTb_t 1108 (by decide +kernel) (by decide +kernel)
theorem kf12_23 : kFl RX12 23 12 6 true (.array .int) := ⟨RX12, TX12, 41, tyX12, rfl, by decide, uX12, kt_1108, tyX12_ok, nmX12, rfl, by decide +kernel, rfl⟩
theorem kt_1109 : Cond.fieldLink RX12 26 "LostByStateModel" "needs" "[I" ∈ zTb := zTb_t 1109 (by decide +kernel) (by decide +kernel)
theorem kf12_26 : kFl RX12 26 12 7 true (.array .int) := ⟨RX12, TX12, 41, tyX12, rfl, by decide, uX12, kt_1109, tyX12_ok, nmX12, rfl, by decide +kernel, rfl⟩
theorem kt_534 : Cond.arrayClass (newarray.typeOf .byte) ∈ zTb := zTb_t 534 (by decide +kernel) (by decide +kernel)
theorem kt_1110 : Cond.fieldLink RX12 29 "LostByStateModel" "text" "[B" ∈ zTb := zTb_t 1110 (by decide +kernel) (by decide +kernel)
theorem kf12_29 : kFl RX12 29 12 8 true (.array .byte) := ⟨RX12, TX12, 41, tyX12, rfl, by decide, uX12, kt_1110, tyX12_ok, nmX12, rfl, by decide +kernel, rfl⟩
theorem kt_1112 : Cond.fieldLink RX12 33 "LostByStateModel" "row" "[J" ∈ zTb := zTb_t 1112 (by decide +kernel) (by decide +kernel)
theorem kf12_33 : kFl RX12 33 12 10 true (.array .long) := ⟨RX12, TX12, 41, tyX12, rfl, by decide, uX12, kt_1112, tyX12_ok, nmX12, rfl, by decide +kernel, rfl⟩
theorem kt_1120 : Cond.fieldLink RX12 37 "LostByStateModel" "comes" "[I" ∈ zTb := zTb_t 1120 (by decide +kernel) (by decide +kernel)
theorem kf12_37 : kFl RX12 37 12 18 true (.array .int) := ⟨RX12, TX12, 41, tyX12, rfl, by decide, uX12, kt_1120, tyX12_ok, nmX12, rfl, by decide +kernel, rfl⟩
theorem kt_1121 : Cond.fieldLink RX12 40 "LostByStateModel" "rule" "[B" ∈ zTb := zTb_t 1121 (by decide +kernel) (by decide +kernel)
theorem kf12_40 : kFl RX12 40 12 19 false (.array .byte) := ⟨RX12, TX12, 41, tyX12, rfl, by decide, uX12, kt_1121, tyX12_ok, nmX12, rfl, by decide +kernel, rfl⟩
theorem kt_1122 : Cond.fieldLink RX12 43 "LostByStateModel" "otherRule" "[B" ∈ zTb := zTb_t 1122 (by decide +kernel) (by decide +kernel)
theorem kf12_43 : kFl RX12 43 12 20 false (.array .byte) := ⟨RX12, TX12, 41, tyX12, rfl, by decide, uX12, kt_1122, tyX12_ok, nmX12, rfl, by decide +kernel, rfl⟩
theorem kt_1125 : Cond.fieldLink RX12 46 "LostByStateModel" "asked" "[I" ∈ zTb := zTb_t 1125 (by decide +kernel) (by decide +kernel)
theorem kf12_46 : kFl RX12 46 12 23 true (.array .int) := ⟨RX12, TX12, 41, tyX12, rfl, by decide, uX12, kt_1125, tyX12_ok, nmX12, rfl, by decide +kernel, rfl⟩
theorem kt_1126 : Cond.fieldLink RX12 49 "LostByStateModel" "undos" "[I" ∈ zTb := zTb_t 1126 (by decide +kernel) (by decide +kernel)
theorem kf12_49 : kFl RX12 49 12 24 true (.array .int) := ⟨RX12, TX12, 41, tyX12, rfl, by decide, uX12, kt_1126, tyX12_ok, nmX12, rfl, by decide +kernel, rfl⟩
theorem kt_1128 : Cond.fieldLink RX12 52 "LostByStateModel" "aside" "[I" ∈ zTb := zTb_t 1128 (by decide +kernel) (by decide +kernel)
theorem kf12_52 : kFl RX12 52 12 26 true (.array .int) := ⟨RX12, TX12, 41, tyX12, rfl, by decide, uX12, kt_1128, tyX12_ok, nmX12, rfl, by decide +kernel, rfl⟩
theorem kt_1129 : Cond.fieldLink RX12 55 "LostByStateModel" "then" "[I" ∈ zTb := zTb_t 1129 (by decide +kernel) (by decide +kernel)
theorem kf12_55 : kFl RX12 55 12 27 true (.array .int) := ⟨RX12, TX12, 41, tyX12, rfl, by decide, uX12, kt_1129, tyX12_ok, nmX12, rfl, by decide +kernel, rfl⟩
theorem kt_1130 : Cond.fieldLink RX12 58 "LostByStateModel" "acts" "[I" ∈ zTb := zTb_t 1130 (by decide +kernel) (by decide +kernel)
theorem kf12_58 : kFl RX12 58 12 28 true (.array .int) := ⟨RX12, TX12, 41, tyX12, rfl, by decide, uX12, kt_1130, tyX12_ok, nmX12, rfl, by decide +kernel, rfl⟩
theorem kt_1131 : Cond.fieldLink RX12 61 "LostByStateModel" "given" "[I" ∈ zTb := zTb_t 1131 (by decide +kernel) (by decide +kernel)
theorem kf12_61 : kFl RX12 61 12 29 true (.array .int) := ⟨RX12, TX12, 41, tyX12, rfl, by decide, uX12, kt_1131, tyX12_ok, nmX12, rfl, by decide +kernel, rfl⟩
theorem kt_1132 : Cond.fieldLink RX12 64 "LostByStateModel" "saidOf" "[I" ∈ zTb := zTb_t 1132 (by decide +kernel) (by decide +kernel)
theorem kf12_64 : kFl RX12 64 12 30 true (.array .int) := ⟨RX12, TX12, 41, tyX12, rfl, by decide, uX12, kt_1132, tyX12_ok, nmX12, rfl, by decide +kernel, rfl⟩
theorem kt_1135 : Cond.fieldLink RX12 67 "LostByStateModel" "left" "[J" ∈ zTb := zTb_t 1135 (by decide +kernel) (by decide +kernel)
theorem kf12_67 : kFl RX12 67 12 33 true (.array .long) := ⟨RX12, TX12, 41, tyX12, rfl, by decide, uX12, kt_1135, tyX12_ok, nmX12, rfl, by decide +kernel, rfl⟩
theorem kt_1136 : Cond.fieldLink RX12 70 "LostByStateModel" "looked" "[I" ∈ zTb := zTb_t 1136 (by decide +kernel) (by decide +kernel)
theorem kf12_70 : kFl RX12 70 12 34 true (.array .int) := ⟨RX12, TX12, 41, tyX12, rfl, by decide, uX12, kt_1136, tyX12_ok, nmX12, rfl, by decide +kernel, rfl⟩
theorem kt_1137 : Cond.fieldLink RX12 73 "LostByStateModel" "come" "[J" ∈ zTb := zTb_t 1137 (by decide +kernel) (by decide +kernel)
theorem kf12_73 : kFl RX12 73 12 35 true (.array .long) := ⟨RX12, TX12, 41, tyX12, rfl, by decide, uX12, kt_1137, tyX12_ok, nmX12, rfl, by decide +kernel, rfl⟩
theorem kt_1140 : Cond.fieldLink RX12 76 "LostByStateModel" "kept" "[I" ∈ zTb := zTb_t 1140 (by decide +kernel) (by decide +kernel)
theorem kf12_76 : kFl RX12 76 12 38 true (.array .int) := ⟨RX12, TX12, 41, tyX12, rfl, by decide, uX12, kt_1140, tyX12_ok, nmX12, rfl, by decide +kernel, rfl⟩
theorem kt_175 : Cond.arrayClass (newarray.typeOf .boolean) ∈ zTb := zTb_t 175 (by decide +kernel) (by decide +kernel)
theorem kt_1141 : Cond.fieldLink RX12 79 "LostByStateModel" "isKept" "[Z" ∈ zTb := zTb_t 1141 (by decide +kernel) (by decide +kernel)
theorem kf12_79 : kFl RX12 79 12 39 true (.array .boolean) := ⟨RX12, TX12, 41, tyX12, rfl, by decide, uX12, kt_1141, tyX12_ok, nmX12, rfl, by decide +kernel, rfl⟩
theorem kt_1142 : Cond.fieldLink RX12 83 "LostByStateModel" "keptCame" "[I" ∈ zTb := zTb_t 1142 (by decide +kernel) (by decide +kernel)
theorem kf12_83 : kFl RX12 83 12 40 true (.array .int) := ⟨RX12, TX12, 41, tyX12, rfl, by decide, uX12, kt_1142, tyX12_ok, nmX12, rfl, by decide +kernel, rfl⟩
def bX12 (E : kE) (q : Nat) (f : Nat → Nat) : va_W := [(q, .inr (12, [.ref (f 0), .int 0, .int 0, .int 30, .int 3, .ref (f 1), .ref (f 2), .ref (f 3), .ref (f 4), .int 0, .ref (f 5), .int 0, .int 0, .null, .int 0, .int 0, .int 0, .int 0, .ref (f 6), .ref (f 7), .ref (f 8), .int 0, .int 0, .ref (f 9), .ref (f 10), .int 0, .ref (f 11), .ref (f 12), .ref (f 13), .ref (f 14), .ref (f 15), .int 0, .int 0, .ref (f 16), .ref (f 17), .ref (f 18), .int 0, .int 0, .ref (f 19), .ref (f 20), .ref (f 21)])), ((f 0), .inl (E.2.2.1 0, 26, .inl (fun _ => 0))), ((f 1), .inl (E.2.2.1 0, 8, .inl (fun _ => 0))), ((f 2), .inl (E.2.2.1 0, 8, .inl (fun _ => 0))), ((f 3), .inl (E.2.2.1 0, 6, .inl (fun _ => 0))), ((f 4), .inl (E.2.2.1 3, 80, .inl (fun _ => 0))), ((f 5), .inl (E.2.2.1 1, 16, .inr (.inl (fun _ => 0)))), ((f 6), .inl (E.2.2.1 0, 16, .inl (fun _ => 0))), ((f 7), .inl (E.2.2.1 3, 40, .inl (fun _ => 0))), ((f 8), .inl (E.2.2.1 3, 40, .inl (fun _ => 0))), ((f 9), .inl (E.2.2.1 0, 6, .inl (fun _ => 0))), ((f 10), .inl (E.2.2.1 0, 312, .inl (fun _ => 0))), ((f 11), .inl (E.2.2.1 0, 26, .inl (fun _ => 0))), ((f 12), .inl (E.2.2.1 0, 26, .inl (fun _ => 0))), ((f 13), .inl (E.2.2.1 0, 240, .inl (fun _ => 0))), ((f 14), .inl (E.2.2.1 0, 1792, .inl (fun _ => 0))), ((f 15), .inl (E.2.2.1 0, 12, .inl (fun _ => 0))), ((f 16), .inl (E.2.2.1 1, 6, .inr (.inl (fun _ => 0)))), ((f 17), .inl (E.2.2.1 0, 10, .inl (fun _ => 0))), ((f 18), .inl (E.2.2.1 1, 6, .inr (.inl (fun _ => 0)))), ((f 19), .inl (E.2.2.1 0, 52, .inl (fun _ => 0))), ((f 20), .inl (E.2.2.1 2, 2, .inl (fun _ => 0))), ((f 21), .inl (E.2.2.1 0, 2, .inl (fun _ => 0)))]
theorem kt_161 : Cond.fieldLink RX4 9 "LostByState$Rule" "parts" "[I" ∈ zTb := zTb_t 161 (by decide +kernel) (by decide +kernel)
theorem kf4_9 : kFl RX4 9 4 0 true (.array .int) := ⟨RX4, TX4, 4, tyX4, rfl, by decide, uX4, kt_161, tyX4_ok, nmX4, rfl, by decide +kernel, rfl⟩
theorem kt_164 : Cond.fieldLink RX4 21 "LostByState$Rule" "many" "I" ∈ zTb := zTb_t 164 (by decide +kernel) (by decide +kernel)
theorem kf4_21 : kFl RX4 21 4 3 false (.int) := ⟨RX4, TX4, 4, tyX4, rfl, by decide, uX4, kt_164, tyX4_ok, nmX4, rfl, by decide +kernel, rfl⟩
theorem kt_151 : Cond.methodLink RX4 3 Lib.objectInit ∈ zTb := zTb_t 151 (by decide +kernel) (by decide +kernel)
theorem kt_162 : Cond.fieldLink RX4 15 "LostByState$Rule" "values" "[I" ∈ zTb := zTb_t 162 (by decide +kernel) (by decide +kernel)
theorem kf4_15 : kFl RX4 15 4 1 true (.array .int) := ⟨RX4, TX4, 4, tyX4, rfl, by decide, uX4, kt_162, tyX4_ok, nmX4, rfl, by decide +kernel, rfl⟩
theorem kt_163 : Cond.fieldLink RX4 18 "LostByState$Rule" "named" "[I" ∈ zTb := zTb_t 163 (by decide +kernel) (by decide +kernel)
theorem kf4_18 : kFl RX4 18 4 2 true (.array .int) := ⟨RX4, TX4, 4, tyX4, rfl, by decide, uX4, kt_163, tyX4_ok, nmX4, rfl, by decide +kernel, rfl⟩
theorem kt_155 : Cond.code yX4_becomePlain cX4_becomePlain 1 none ∈ zTb := zTb_t 155 (by decide +kernel) (by decide +kernel)
theorem kt_7 : Cond.initialized RX4 ∈ zTb := zTb_t 7 (by decide +kernel) (by decide +kernel)
theorem kt_153 : Cond.instanceMethod yX4_becomePlain ∈ zTb := zTb_t 153 (by decide +kernel) (by decide +kernel)
theorem kt_152 : Cond.methodLink RX4 25 yX4_becomePlain ∈ zTb := zTb_t 152 (by decide +kernel) (by decide +kernel)
theorem kwX4_25 : kWd RX4 25 yX4_becomePlain cX4_becomePlain 1 0 := ⟨kt_155, kt_7, kt_153, ⟨by decide, by decide, by decide +kernel⟩, by decide, Or.inl kt_152⟩
theorem kt_154 : Cond.selects RX4 yX4_becomePlain yX4_becomePlain ∈ zTb := zTb_t 154 (by decide +kernel) (by decide +kernel)
def bX4 (E : kE) (q : Nat) (f : Nat → Nat) : va_W := [(q, .inr (4, [.ref (f 0), .ref (f 1), .ref (f 2), .int 9])), (f 0, .inl (E.2.2.1 0, 40, .inl (va_cpy (fun j => zPlain.getD j 0) (fun _ => 0) 0 0 9))), (f 1, .inl (E.2.2.1 0, 40, .inl (fun _ => 0))), (f 2, .inl (E.2.2.1 0, 6, .inl (fun _ => 0)))]
def fI (i : Nat) : Nat → Int32 := fun j => if j < i then -1 else 0
def bX10 (E : kE) (q : Nat) (f : Nat → Nat) : va_W := [(q, .inr (10, [.ref (f 0), .ref (f 1), .ref (f 2), .ref (f 3), .int 0, .int 0])), (f 0, .inl (E.2.2.1 0, 8, .inl (fI 8))), (f 1, .inl (E.2.2.1 0, 8, .inl (fI 8))), (f 2, .inl (E.2.2.1 0, 8, .inl (fI 8))), (f 3, .inl (E.2.2.1 0, 8, .inl (fI 8)))]
theorem kt_100 : Cond.methodLink RX10 3 Lib.objectInit ∈ zTb := zTb_t 100 (by decide +kernel) (by decide +kernel)
theorem kt_101 : Cond.fieldLink RX10 9 "LostByState$Whereabouts" "holder" "[I" ∈ zTb := zTb_t 101 (by decide +kernel) (by decide +kernel)
theorem kf10_9 : kFl RX10 9 10 0 true (.array .int) := ⟨RX10, TX10, 6, tyX10, rfl, by decide, uX10, kt_101, tyX10_ok, nmX10, rfl, by decide +kernel, rfl⟩
theorem kt_103 : Cond.fieldLink RX10 15 "LostByState$Whereabouts" "place" "[I" ∈ zTb := zTb_t 103 (by decide +kernel) (by decide +kernel)
theorem kf10_15 : kFl RX10 15 10 1 true (.array .int) := ⟨RX10, TX10, 6, tyX10, rfl, by decide, uX10, kt_103, tyX10_ok, nmX10, rfl, by decide +kernel, rfl⟩
theorem kt_105 : Cond.fieldLink RX10 18 "LostByState$Whereabouts" "days" "[I" ∈ zTb := zTb_t 105 (by decide +kernel) (by decide +kernel)
theorem kf10_18 : kFl RX10 18 10 2 true (.array .int) := ⟨RX10, TX10, 6, tyX10, rfl, by decide, uX10, kt_105, tyX10_ok, nmX10, rfl, by decide +kernel, rfl⟩
theorem kt_107 : Cond.fieldLink RX10 21 "LostByState$Whereabouts" "finder" "[I" ∈ zTb := zTb_t 107 (by decide +kernel) (by decide +kernel)
theorem kf10_21 : kFl RX10 21 10 3 true (.array .int) := ⟨RX10, TX10, 6, tyX10, rfl, by decide, uX10, kt_107, tyX10_ok, nmX10, rfl, by decide +kernel, rfl⟩
theorem kt_109 : Cond.fieldLink RX10 24 "LostByState$Whereabouts" "day" "I" ∈ zTb := zTb_t 109 (by decide +kernel) (by decide +kernel)
theorem kf10_24 : kFl RX10 24 10 4 false (.int) := ⟨RX10, TX10, 6, tyX10, rfl, by decide, uX10, kt_109, tyX10_ok, nmX10, rfl, by decide +kernel, rfl⟩
theorem kt_111 : Cond.fieldLink RX10 28 "LostByState$Whereabouts" "paid" "I" ∈ zTb := zTb_t 111 (by decide +kernel) (by decide +kernel)
theorem kf10_28 : kFl RX10 28 10 5 false (.int) := ⟨RX10, TX10, 6, tyX10, rfl, by decide, uX10, kt_111, tyX10_ok, nmX10, rfl, by decide +kernel, rfl⟩
def bPs (E : kE) : Nat → (Nat → Nat → Nat) → va_W
  | 0, _ => []
  | n + 1, g => bPs E n g ++ bX10 E (g n 0) (fun i => g n (i + 1))
def aP (n : Nat) (g : Nat → Nat → Nat) : Nat → Option Nat := fun j => if j < n then some (g j 0) else none
def bX2 (E : kE) (q : Nat) (u : Nat × (Nat → Nat → Nat)) : va_W := (q, .inr (2, [.ref u.1, .int 0, .int 0])) :: (u.1, .inl (E.2.2.1 4, 13, .inr (.inr (.inr (.inr (aP 13 u.2)))))) :: bPs E 13 u.2
def kc (q : Nat) (f : Nat → Nat) : Nat → Nat
  | 0 => q
  | j + 1 => f j
theorem bPs_congr {E : kE} {g g' : Nat → Nat → Nat} : ∀ n, (∀ j, j < n → g j = g' j) → bPs E n g = bPs E n g'
  | 0, _ => rfl
  | n + 1, h => by
    show bPs E n g ++ _ = bPs E n g' ++ _
    rw [bPs_congr n (fun j hj => h j (by omega)), h n (by omega)]
theorem at_len {w0 r : va_W} {x : Nat × va_E} : (w0 ++ x :: r)[w0.length]? = some x := by simp
theorem kt_131 : Cond.methodLink RX2 3 Lib.objectInit ∈ zTb := zTb_t 131 (by decide +kernel) (by decide +kernel)
theorem kt_132 : Cond.classLink RX2 9 nWh ∈ zTb := zTb_t 132 (by decide +kernel) (by decide +kernel)
theorem kt_135 : Cond.fieldLink RX2 11 "LostByState$Past" "slots" "[LLostByState$Whereabouts;" ∈ zTb := zTb_t 135 (by decide +kernel) (by decide +kernel)
theorem kf2_11 : kFl RX2 11 2 0 true (.array (.object "LostByState$Whereabouts")) := ⟨RX2, TX2, 3, tyX2, rfl, by decide, uX2, kt_135, tyX2_ok, nmX2, rfl, by decide +kernel, rfl⟩
theorem kt_136 : Cond.fieldLink RX2 15 "LostByState$Past" "next" "I" ∈ zTb := zTb_t 136 (by decide +kernel) (by decide +kernel)
theorem kf2_15 : kFl RX2 15 2 1 false (.int) := ⟨RX2, TX2, 3, tyX2, rfl, by decide, uX2, kt_136, tyX2_ok, nmX2, rfl, by decide +kernel, rfl⟩
theorem kt_137 : Cond.fieldLink RX2 19 "LostByState$Past" "many" "I" ∈ zTb := zTb_t 137 (by decide +kernel) (by decide +kernel)
theorem kf2_19 : kFl RX2 19 2 2 false (.int) := ⟨RX2, TX2, 3, tyX2, rfl, by decide, uX2, kt_137, tyX2_ok, nmX2, rfl, by decide +kernel, rfl⟩
theorem kt_134 : Cond.methodLink RX2 22 yX10_init ∈ zTb := zTb_t 134 (by decide +kernel) (by decide +kernel)
theorem kt_99 : Cond.code yX10_init cX10_init 2 none ∈ zTb := zTb_t 99 (by decide +kernel) (by decide +kernel)
theorem kt_5 : Cond.initialized RX10 ∈ zTb := zTb_t 5 (by decide +kernel) (by decide +kernel)
theorem kt_98 : Cond.instanceMethod yX10_init ∈ zTb := zTb_t 98 (by decide +kernel) (by decide +kernel)
theorem kwX2_22 : kWd RX2 22 yX10_init cX10_init 2 0 := ⟨kt_99, kt_5, kt_98, ⟨by decide, by decide, by decide +kernel⟩, by decide, Or.inl kt_134⟩
theorem kt_96 : Cond.instantiable RX10 6 ∈ zTb := zTb_t 96 (by decide +kernel) (by decide +kernel)
theorem dX0_init_0 : decode cX0_init 0 = .ok (.aload_n 0, 1) := by decide +kernel
theorem dX0_init_1 : decode cX0_init 1 = .ok (.invokespecial 3, 3) := by decide +kernel
theorem dX0_init_4 : decode cX0_init 4 = .ok (.aload_n 0, 1) := by decide +kernel
theorem dX0_init_5 : decode cX0_init 5 = .ok (.bipush 30, 2) := by decide +kernel
theorem dX0_init_7 : decode cX0_init 7 = .ok (.newarray .int, 2) := by decide +kernel
theorem dX0_init_9 : decode cX0_init 9 = .ok (.putfield 11, 3) := by decide +kernel
theorem dX0_init_12 : decode cX0_init 12 = .ok (.aload_n 0, 1) := by decide +kernel
theorem dX0_init_13 : decode cX0_init 13 = .ok (.bipush 30, 2) := by decide +kernel
theorem dX0_init_15 : decode cX0_init 15 = .ok (.newarray .int, 2) := by decide +kernel
theorem dX0_init_17 : decode cX0_init 17 = .ok (.putfield 15, 3) := by decide +kernel
theorem dX0_init_20 : decode cX0_init 20 = .ok (.aload_n 0, 1) := by decide +kernel
theorem dX0_init_21 : decode cX0_init 21 = .ok (.bipush 30, 2) := by decide +kernel
theorem dX0_init_23 : decode cX0_init 23 = .ok (.newarray .int, 2) := by decide +kernel
theorem dX0_init_25 : decode cX0_init 25 = .ok (.putfield 18, 3) := by decide +kernel
theorem dX0_init_28 : decode cX0_init 28 = .ok (.aload_n 0, 1) := by decide +kernel
theorem dX0_init_29 : decode cX0_init 29 = .ok (.iconst 0, 1) := by decide +kernel
theorem dX0_init_30 : decode cX0_init 30 = .ok (.putfield 21, 3) := by decide +kernel
theorem dX0_init_33 : decode cX0_init 33 = .ok (.return_, 1) := by decide +kernel
theorem cK0 (E : kE) (q : Nat) : CK E 1 3 90 yX0_init cX0_init 1 [.ref q] [(q, .inr (0, [.null, .null, .null, .int 0]))] (bX0 E q) := by
  refine CK.of (by decide) (Nat.le_of_ble_eq_true rfl) (fun Γ hC hI hq => ?_)
  have hC : Kx E Γ RX0 cX0_init 1 1 3 90 := hC
  have hI := hI rfl
  show GC E Γ 0 0 1 0 [(0, .ref q)] [] [(q, .inr (0, [.null, .null, .null, .int 0]))]
  refine k_aload (i := 0) (x := q) hC dX0_init_0 rfl rfl ?_
  refine k_objInit hC kt_200 kt_32 kt_33 dX0_init_1 (by decide) ?_
  refine k_aload (i := 0) (x := q) hC dX0_init_4 rfl rfl ?_
  refine k_bipush (v := 30) hC dX0_init_5 (by decide +kernel) ?_
  refine k_newa (t := 0) (N' := 30) (a0 := (30, .inl (fun _ => 0))) (ty := .int) hC kt_51 rfl rfl (fun _ => rfl) (by decide) (by decide +kernel) (by decide) (by decide) (by decide) dX0_init_7 (fun q7 => ?_)
  refine k_ws (ws2 := (q, .inr (0, [.null, .null, .null, .int 0])) :: [(q7, .inl (E.2.2.1 0, 30, .inl (fun _ => 0)))]) rfl ?_
  refine k_put (q0 := 0) (fs := [.null, .null, .null, .int 0]) hC hI kf0_11 dX0_init_9 rfl rfl rfl (Nat.le_of_ble_eq_true rfl) ?_
  refine k_ws (ws2 := (q, .inr (0, [.ref q7, .null, .null, .int 0])) :: [(q7, .inl (E.2.2.1 0, 30, .inl (fun _ => 0)))]) rfl ?_
  refine k_aload (i := 0) (x := q) hC dX0_init_12 rfl rfl ?_
  refine k_bipush (v := 30) hC dX0_init_13 (by decide +kernel) ?_
  refine k_newa (t := 0) (N' := 30) (a0 := (30, .inl (fun _ => 0))) (ty := .int) hC kt_51 rfl rfl (fun _ => rfl) (by decide) (by decide +kernel) (by decide) (by decide) (by decide) dX0_init_15 (fun q15 => ?_)
  refine k_ws (ws2 := (q, .inr (0, [.ref q7, .null, .null, .int 0])) :: [(q7, .inl (E.2.2.1 0, 30, .inl (fun _ => 0))), (q15, .inl (E.2.2.1 0, 30, .inl (fun _ => 0)))]) rfl ?_
  refine k_put (q0 := 0) (fs := [.ref q7, .null, .null, .int 0]) hC hI kf0_15 dX0_init_17 rfl rfl rfl (Nat.le_of_ble_eq_true rfl) ?_
  refine k_ws (ws2 := (q, .inr (0, [.ref q7, .ref q15, .null, .int 0])) :: [(q7, .inl (E.2.2.1 0, 30, .inl (fun _ => 0))), (q15, .inl (E.2.2.1 0, 30, .inl (fun _ => 0)))]) rfl ?_
  refine k_aload (i := 0) (x := q) hC dX0_init_20 rfl rfl ?_
  refine k_bipush (v := 30) hC dX0_init_21 (by decide +kernel) ?_
  refine k_newa (t := 0) (N' := 30) (a0 := (30, .inl (fun _ => 0))) (ty := .int) hC kt_51 rfl rfl (fun _ => rfl) (by decide) (by decide +kernel) (by decide) (by decide) (by decide) dX0_init_23 (fun q23 => ?_)
  refine k_ws (ws2 := (q, .inr (0, [.ref q7, .ref q15, .null, .int 0])) :: [(q7, .inl (E.2.2.1 0, 30, .inl (fun _ => 0))), (q15, .inl (E.2.2.1 0, 30, .inl (fun _ => 0))), (q23, .inl (E.2.2.1 0, 30, .inl (fun _ => 0)))]) rfl ?_
  refine k_put (q0 := 0) (fs := [.ref q7, .ref q15, .null, .int 0]) hC hI kf0_18 dX0_init_25 rfl rfl rfl (Nat.le_of_ble_eq_true rfl) ?_
  refine k_ws (ws2 := (q, .inr (0, [.ref q7, .ref q15, .ref q23, .int 0])) :: [(q7, .inl (E.2.2.1 0, 30, .inl (fun _ => 0))), (q15, .inl (E.2.2.1 0, 30, .inl (fun _ => 0))), (q23, .inl (E.2.2.1 0, 30, .inl (fun _ => 0)))]) rfl ?_
  refine k_aload (i := 0) (x := q) hC dX0_init_28 rfl rfl ?_
  refine k_iconst (v := 0) hC dX0_init_29 (by decide +kernel) ?_
  refine k_put (q0 := 0) (fs := [.ref q7, .ref q15, .ref q23, .int 0]) hC hI kf0_21 dX0_init_30 rfl rfl rfl (Nat.le_of_ble_eq_true rfl) ?_
  refine k_ws (ws2 := (q, .inr (0, [.ref q7, .ref q15, .ref q23, .int 0])) :: [(q7, .inl (E.2.2.1 0, 30, .inl (fun _ => 0))), (q15, .inl (E.2.2.1 0, 30, .inl (fun _ => 0))), (q23, .inl (E.2.2.1 0, 30, .inl (fun _ => 0)))]) rfl ?_
  exact k_vret hC hq (by decide) (by decide) dX0_init_33 (fun j => ([q7, q15, q23] : List Nat).getD j 0) rfl
theorem dX1_init_0 : decode cX1_init 0 = .ok (.aload_n 0, 1) := by decide +kernel
theorem dX1_init_1 : decode cX1_init 1 = .ok (.invokespecial 1, 3) := by decide +kernel
theorem dX1_init_4 : decode cX1_init 4 = .ok (.aload_n 0, 1) := by decide +kernel
theorem dX1_init_5 : decode cX1_init 5 = .ok (.iconst 0, 1) := by decide +kernel
theorem dX1_init_6 : decode cX1_init 6 = .ok (.putfield 7, 3) := by decide +kernel
theorem dX1_init_9 : decode cX1_init 9 = .ok (.aload_n 0, 1) := by decide +kernel
theorem dX1_init_10 : decode cX1_init 10 = .ok (.iconst 0, 1) := by decide +kernel
theorem dX1_init_11 : decode cX1_init 11 = .ok (.putfield 13, 3) := by decide +kernel
theorem dX1_init_14 : decode cX1_init 14 = .ok (.aload_n 0, 1) := by decide +kernel
theorem dX1_init_15 : decode cX1_init 15 = .ok (.iconst 0, 1) := by decide +kernel
theorem dX1_init_16 : decode cX1_init 16 = .ok (.putfield 16, 3) := by decide +kernel
theorem dX1_init_19 : decode cX1_init 19 = .ok (.return_, 1) := by decide +kernel
theorem cK1 (E : kE) (q : Nat) : CK E 1 0 0 yX1_init cX1_init 1 [.ref q] [(q, .inr (1, [.int 0, .int 0, .int 0]))] (bX1 E q) := by
  refine CK.of (by decide) (Nat.le_of_ble_eq_true rfl) (fun Γ hC hI hq => ?_)
  have hC : Kx E Γ RX1 cX1_init 1 1 0 0 := hC
  have hI := hI rfl
  show GC E Γ 0 0 1 0 [(0, .ref q)] [] [(q, .inr (1, [.int 0, .int 0, .int 0]))]
  refine k_aload (i := 0) (x := q) hC dX1_init_0 rfl rfl ?_
  refine k_objInit hC kt_259 kt_32 kt_33 dX1_init_1 (by decide) ?_
  refine k_aload (i := 0) (x := q) hC dX1_init_4 rfl rfl ?_
  refine k_iconst (v := 0) hC dX1_init_5 (by decide +kernel) ?_
  refine k_put (q0 := 0) (fs := [.int 0, .int 0, .int 0]) hC hI kf1_7 dX1_init_6 rfl rfl rfl (Nat.le_of_ble_eq_true rfl) ?_
  refine k_ws (ws2 := (q, .inr (1, [.int 0, .int 0, .int 0])) :: []) rfl ?_
  refine k_aload (i := 0) (x := q) hC dX1_init_9 rfl rfl ?_
  refine k_iconst (v := 0) hC dX1_init_10 (by decide +kernel) ?_
  refine k_put (q0 := 0) (fs := [.int 0, .int 0, .int 0]) hC hI kf1_13 dX1_init_11 rfl rfl rfl (Nat.le_of_ble_eq_true rfl) ?_
  refine k_ws (ws2 := (q, .inr (1, [.int 0, .int 0, .int 0])) :: []) rfl ?_
  refine k_aload (i := 0) (x := q) hC dX1_init_14 rfl rfl ?_
  refine k_iconst (v := 0) hC dX1_init_15 (by decide +kernel) ?_
  refine k_put (q0 := 0) (fs := [.int 0, .int 0, .int 0]) hC hI kf1_16 dX1_init_16 rfl rfl rfl (Nat.le_of_ble_eq_true rfl) ?_
  refine k_ws (ws2 := (q, .inr (1, [.int 0, .int 0, .int 0])) :: []) rfl ?_
  exact k_vret hC hq (by decide) (by decide) dX1_init_19 (fun j => ([] : List Nat).getD j 0) rfl
theorem dX3_init_0 : decode cX3_init 0 = .ok (.aload_n 0, 1) := by decide +kernel
theorem dX3_init_1 : decode cX3_init 1 = .ok (.invokespecial 1, 3) := by decide +kernel
theorem dX3_init_4 : decode cX3_init 4 = .ok (.aload_n 0, 1) := by decide +kernel
theorem dX3_init_5 : decode cX3_init 5 = .ok (.bipush 16, 2) := by decide +kernel
theorem dX3_init_7 : decode cX3_init 7 = .ok (.newarray .long, 2) := by decide +kernel
theorem dX3_init_9 : decode cX3_init 9 = .ok (.putfield 7, 3) := by decide +kernel
theorem dX3_init_12 : decode cX3_init 12 = .ok (.aload_n 0, 1) := by decide +kernel
theorem dX3_init_13 : decode cX3_init 13 = .ok (.iconst 0, 1) := by decide +kernel
theorem dX3_init_14 : decode cX3_init 14 = .ok (.putfield 13, 3) := by decide +kernel
theorem dX3_init_17 : decode cX3_init 17 = .ok (.return_, 1) := by decide +kernel
theorem cK3 (E : kE) (q : Nat) : CK E 1 1 16 yX3_init cX3_init 1 [.ref q] [(q, .inr (3, [.null, .int 0]))] (bX3 E q) := by
  refine CK.of (by decide) (Nat.le_of_ble_eq_true rfl) (fun Γ hC hI hq => ?_)
  have hC : Kx E Γ RX3 cX3_init 1 1 1 16 := hC
  have hI := hI rfl
  show GC E Γ 0 0 1 0 [(0, .ref q)] [] [(q, .inr (3, [.null, .int 0]))]
  refine k_aload (i := 0) (x := q) hC dX3_init_0 rfl rfl ?_
  refine k_objInit hC kt_57 kt_32 kt_33 dX3_init_1 (by decide) ?_
  refine k_aload (i := 0) (x := q) hC dX3_init_4 rfl rfl ?_
  refine k_bipush (v := 16) hC dX3_init_5 (by decide +kernel) ?_
  refine k_newa (t := 1) (N' := 16) (a0 := (16, .inr (.inl (fun _ => 0)))) (ty := .long) hC kt_67 rfl rfl (fun _ => rfl) (by decide) (by decide +kernel) (by decide) (by decide) (by decide) dX3_init_7 (fun q7 => ?_)
  refine k_ws (ws2 := (q, .inr (3, [.null, .int 0])) :: [(q7, .inl (E.2.2.1 1, 16, .inr (.inl (fun _ => 0))))]) rfl ?_
  refine k_put (q0 := 0) (fs := [.null, .int 0]) hC hI kf3_7 dX3_init_9 rfl rfl rfl (Nat.le_of_ble_eq_true rfl) ?_
  refine k_ws (ws2 := (q, .inr (3, [.ref q7, .int 0])) :: [(q7, .inl (E.2.2.1 1, 16, .inr (.inl (fun _ => 0))))]) rfl ?_
  refine k_aload (i := 0) (x := q) hC dX3_init_12 rfl rfl ?_
  refine k_iconst (v := 0) hC dX3_init_13 (by decide +kernel) ?_
  refine k_put (q0 := 0) (fs := [.ref q7, .int 0]) hC hI kf3_13 dX3_init_14 rfl rfl rfl (Nat.le_of_ble_eq_true rfl) ?_
  refine k_ws (ws2 := (q, .inr (3, [.ref q7, .int 0])) :: [(q7, .inl (E.2.2.1 1, 16, .inr (.inl (fun _ => 0))))]) rfl ?_
  exact k_vret hC hq (by decide) (by decide) dX3_init_17 (fun j => ([q7] : List Nat).getD j 0) rfl
theorem dX6_init_0 : decode cX6_init 0 = .ok (.aload_n 0, 1) := by decide +kernel
theorem dX6_init_1 : decode cX6_init 1 = .ok (.invokespecial 3, 3) := by decide +kernel
theorem dX6_init_4 : decode cX6_init 4 = .ok (.aload_n 0, 1) := by decide +kernel
theorem dX6_init_5 : decode cX6_init 5 = .ok (.bipush 6, 2) := by decide +kernel
theorem dX6_init_7 : decode cX6_init 7 = .ok (.newarray .int, 2) := by decide +kernel
theorem dX6_init_9 : decode cX6_init 9 = .ok (.putfield 9, 3) := by decide +kernel
theorem dX6_init_12 : decode cX6_init 12 = .ok (.aload_n 0, 1) := by decide +kernel
theorem dX6_init_13 : decode cX6_init 13 = .ok (.bipush 48, 2) := by decide +kernel
theorem dX6_init_15 : decode cX6_init 15 = .ok (.newarray .int, 2) := by decide +kernel
theorem dX6_init_17 : decode cX6_init 17 = .ok (.putfield 15, 3) := by decide +kernel
theorem dX6_init_20 : decode cX6_init 20 = .ok (.aload_n 0, 1) := by decide +kernel
theorem dX6_init_21 : decode cX6_init 21 = .ok (.sipush 1792, 3) := by decide +kernel
theorem dX6_init_24 : decode cX6_init 24 = .ok (.newarray .int, 2) := by decide +kernel
theorem dX6_init_26 : decode cX6_init 26 = .ok (.putfield 18, 3) := by decide +kernel
theorem dX6_init_29 : decode cX6_init 29 = .ok (.return_, 1) := by decide +kernel
theorem cK6 (E : kE) (q : Nat) : CK E 1 3 1846 yX6_init cX6_init 1 [.ref q] [(q, .inr (6, [.null, .null, .null]))] (bX6 E q) := by
  refine CK.of (by decide) (Nat.le_of_ble_eq_true rfl) (fun Γ hC hI hq => ?_)
  have hC : Kx E Γ RX6 cX6_init 1 1 3 1846 := hC
  have hI := hI rfl
  show GC E Γ 0 0 1 0 [(0, .ref q)] [] [(q, .inr (6, [.null, .null, .null]))]
  refine k_aload (i := 0) (x := q) hC dX6_init_0 rfl rfl ?_
  refine k_objInit hC kt_223 kt_32 kt_33 dX6_init_1 (by decide) ?_
  refine k_aload (i := 0) (x := q) hC dX6_init_4 rfl rfl ?_
  refine k_bipush (v := 6) hC dX6_init_5 (by decide +kernel) ?_
  refine k_newa (t := 0) (N' := 6) (a0 := (6, .inl (fun _ => 0))) (ty := .int) hC kt_51 rfl rfl (fun _ => rfl) (by decide) (by decide +kernel) (by decide) (by decide) (by decide) dX6_init_7 (fun q7 => ?_)
  refine k_ws (ws2 := (q, .inr (6, [.null, .null, .null])) :: [(q7, .inl (E.2.2.1 0, 6, .inl (fun _ => 0)))]) rfl ?_
  refine k_put (q0 := 0) (fs := [.null, .null, .null]) hC hI kf6_9 dX6_init_9 rfl rfl rfl (Nat.le_of_ble_eq_true rfl) ?_
  refine k_ws (ws2 := (q, .inr (6, [.ref q7, .null, .null])) :: [(q7, .inl (E.2.2.1 0, 6, .inl (fun _ => 0)))]) rfl ?_
  refine k_aload (i := 0) (x := q) hC dX6_init_12 rfl rfl ?_
  refine k_bipush (v := 48) hC dX6_init_13 (by decide +kernel) ?_
  refine k_newa (t := 0) (N' := 48) (a0 := (48, .inl (fun _ => 0))) (ty := .int) hC kt_51 rfl rfl (fun _ => rfl) (by decide) (by decide +kernel) (by decide) (by decide) (by decide) dX6_init_15 (fun q15 => ?_)
  refine k_ws (ws2 := (q, .inr (6, [.ref q7, .null, .null])) :: [(q7, .inl (E.2.2.1 0, 6, .inl (fun _ => 0))), (q15, .inl (E.2.2.1 0, 48, .inl (fun _ => 0)))]) rfl ?_
  refine k_put (q0 := 0) (fs := [.ref q7, .null, .null]) hC hI kf6_15 dX6_init_17 rfl rfl rfl (Nat.le_of_ble_eq_true rfl) ?_
  refine k_ws (ws2 := (q, .inr (6, [.ref q7, .ref q15, .null])) :: [(q7, .inl (E.2.2.1 0, 6, .inl (fun _ => 0))), (q15, .inl (E.2.2.1 0, 48, .inl (fun _ => 0)))]) rfl ?_
  refine k_aload (i := 0) (x := q) hC dX6_init_20 rfl rfl ?_
  refine k_sipush (v := 1792) hC dX6_init_21 (by decide +kernel) ?_
  refine k_newa (t := 0) (N' := 1792) (a0 := (1792, .inl (fun _ => 0))) (ty := .int) hC kt_51 rfl rfl (fun _ => rfl) (by decide) (by decide +kernel) (by decide) (by decide) (by decide) dX6_init_24 (fun q24 => ?_)
  refine k_ws (ws2 := (q, .inr (6, [.ref q7, .ref q15, .null])) :: [(q7, .inl (E.2.2.1 0, 6, .inl (fun _ => 0))), (q15, .inl (E.2.2.1 0, 48, .inl (fun _ => 0))), (q24, .inl (E.2.2.1 0, 1792, .inl (fun _ => 0)))]) rfl ?_
  refine k_put (q0 := 0) (fs := [.ref q7, .ref q15, .null]) hC hI kf6_18 dX6_init_26 rfl rfl rfl (Nat.le_of_ble_eq_true rfl) ?_
  refine k_ws (ws2 := (q, .inr (6, [.ref q7, .ref q15, .ref q24])) :: [(q7, .inl (E.2.2.1 0, 6, .inl (fun _ => 0))), (q15, .inl (E.2.2.1 0, 48, .inl (fun _ => 0))), (q24, .inl (E.2.2.1 0, 1792, .inl (fun _ => 0)))]) rfl ?_
  exact k_vret hC hq (by decide) (by decide) dX6_init_29 (fun j => ([q7, q15, q24] : List Nat).getD j 0) rfl
theorem dX7_init_0 : decode cX7_init 0 = .ok (.aload_n 0, 1) := by decide +kernel
theorem dX7_init_1 : decode cX7_init 1 = .ok (.invokespecial 3, 3) := by decide +kernel
theorem dX7_init_4 : decode cX7_init 4 = .ok (.aload_n 0, 1) := by decide +kernel
theorem dX7_init_5 : decode cX7_init 5 = .ok (.bipush 8, 2) := by decide +kernel
theorem dX7_init_7 : decode cX7_init 7 = .ok (.newarray .int, 2) := by decide +kernel
theorem dX7_init_9 : decode cX7_init 9 = .ok (.putfield 9, 3) := by decide +kernel
theorem dX7_init_12 : decode cX7_init 12 = .ok (.aload_n 0, 1) := by decide +kernel
theorem dX7_init_13 : decode cX7_init 13 = .ok (.bipush 8, 2) := by decide +kernel
theorem dX7_init_15 : decode cX7_init 15 = .ok (.newarray .int, 2) := by decide +kernel
theorem dX7_init_17 : decode cX7_init 17 = .ok (.putfield 15, 3) := by decide +kernel
theorem dX7_init_20 : decode cX7_init 20 = .ok (.aload_n 0, 1) := by decide +kernel
theorem dX7_init_21 : decode cX7_init 21 = .ok (.bipush 6, 2) := by decide +kernel
theorem dX7_init_23 : decode cX7_init 23 = .ok (.newarray .int, 2) := by decide +kernel
theorem dX7_init_25 : decode cX7_init 25 = .ok (.putfield 18, 3) := by decide +kernel
theorem dX7_init_28 : decode cX7_init 28 = .ok (.aload_n 0, 1) := by decide +kernel
theorem dX7_init_29 : decode cX7_init 29 = .ok (.iconst 0, 1) := by decide +kernel
theorem dX7_init_30 : decode cX7_init 30 = .ok (.putfield 21, 3) := by decide +kernel
theorem dX7_init_33 : decode cX7_init 33 = .ok (.aload_n 0, 1) := by decide +kernel
theorem dX7_init_34 : decode cX7_init 34 = .ok (.iconst 0, 1) := by decide +kernel
theorem dX7_init_35 : decode cX7_init 35 = .ok (.putfield 25, 3) := by decide +kernel
theorem dX7_init_38 : decode cX7_init 38 = .ok (.return_, 1) := by decide +kernel
theorem cK7 (E : kE) (q : Nat) : CK E 1 3 22 yX7_init cX7_init 1 [.ref q] [(q, .inr (7, [.null, .null, .null, .int 0, .int 0]))] (bX7 E q) := by
  refine CK.of (by decide) (Nat.le_of_ble_eq_true rfl) (fun Γ hC hI hq => ?_)
  have hC : Kx E Γ RX7 cX7_init 1 1 3 22 := hC
  have hI := hI rfl
  show GC E Γ 0 0 1 0 [(0, .ref q)] [] [(q, .inr (7, [.null, .null, .null, .int 0, .int 0]))]
  refine k_aload (i := 0) (x := q) hC dX7_init_0 rfl rfl ?_
  refine k_objInit hC kt_73 kt_32 kt_33 dX7_init_1 (by decide) ?_
  refine k_aload (i := 0) (x := q) hC dX7_init_4 rfl rfl ?_
  refine k_bipush (v := 8) hC dX7_init_5 (by decide +kernel) ?_
  refine k_newa (t := 0) (N' := 8) (a0 := (8, .inl (fun _ => 0))) (ty := .int) hC kt_51 rfl rfl (fun _ => rfl) (by decide) (by decide +kernel) (by decide) (by decide) (by decide) dX7_init_7 (fun q7 => ?_)
  refine k_ws (ws2 := (q, .inr (7, [.null, .null, .null, .int 0, .int 0])) :: [(q7, .inl (E.2.2.1 0, 8, .inl (fun _ => 0)))]) rfl ?_
  refine k_put (q0 := 0) (fs := [.null, .null, .null, .int 0, .int 0]) hC hI kf7_9 dX7_init_9 rfl rfl rfl (Nat.le_of_ble_eq_true rfl) ?_
  refine k_ws (ws2 := (q, .inr (7, [.ref q7, .null, .null, .int 0, .int 0])) :: [(q7, .inl (E.2.2.1 0, 8, .inl (fun _ => 0)))]) rfl ?_
  refine k_aload (i := 0) (x := q) hC dX7_init_12 rfl rfl ?_
  refine k_bipush (v := 8) hC dX7_init_13 (by decide +kernel) ?_
  refine k_newa (t := 0) (N' := 8) (a0 := (8, .inl (fun _ => 0))) (ty := .int) hC kt_51 rfl rfl (fun _ => rfl) (by decide) (by decide +kernel) (by decide) (by decide) (by decide) dX7_init_15 (fun q15 => ?_)
  refine k_ws (ws2 := (q, .inr (7, [.ref q7, .null, .null, .int 0, .int 0])) :: [(q7, .inl (E.2.2.1 0, 8, .inl (fun _ => 0))), (q15, .inl (E.2.2.1 0, 8, .inl (fun _ => 0)))]) rfl ?_
  refine k_put (q0 := 0) (fs := [.ref q7, .null, .null, .int 0, .int 0]) hC hI kf7_15 dX7_init_17 rfl rfl rfl (Nat.le_of_ble_eq_true rfl) ?_
  refine k_ws (ws2 := (q, .inr (7, [.ref q7, .ref q15, .null, .int 0, .int 0])) :: [(q7, .inl (E.2.2.1 0, 8, .inl (fun _ => 0))), (q15, .inl (E.2.2.1 0, 8, .inl (fun _ => 0)))]) rfl ?_
  refine k_aload (i := 0) (x := q) hC dX7_init_20 rfl rfl ?_
  refine k_bipush (v := 6) hC dX7_init_21 (by decide +kernel) ?_
  refine k_newa (t := 0) (N' := 6) (a0 := (6, .inl (fun _ => 0))) (ty := .int) hC kt_51 rfl rfl (fun _ => rfl) (by decide) (by decide +kernel) (by decide) (by decide) (by decide) dX7_init_23 (fun q23 => ?_)
  refine k_ws (ws2 := (q, .inr (7, [.ref q7, .ref q15, .null, .int 0, .int 0])) :: [(q7, .inl (E.2.2.1 0, 8, .inl (fun _ => 0))), (q15, .inl (E.2.2.1 0, 8, .inl (fun _ => 0))), (q23, .inl (E.2.2.1 0, 6, .inl (fun _ => 0)))]) rfl ?_
  refine k_put (q0 := 0) (fs := [.ref q7, .ref q15, .null, .int 0, .int 0]) hC hI kf7_18 dX7_init_25 rfl rfl rfl (Nat.le_of_ble_eq_true rfl) ?_
  refine k_ws (ws2 := (q, .inr (7, [.ref q7, .ref q15, .ref q23, .int 0, .int 0])) :: [(q7, .inl (E.2.2.1 0, 8, .inl (fun _ => 0))), (q15, .inl (E.2.2.1 0, 8, .inl (fun _ => 0))), (q23, .inl (E.2.2.1 0, 6, .inl (fun _ => 0)))]) rfl ?_
  refine k_aload (i := 0) (x := q) hC dX7_init_28 rfl rfl ?_
  refine k_iconst (v := 0) hC dX7_init_29 (by decide +kernel) ?_
  refine k_put (q0 := 0) (fs := [.ref q7, .ref q15, .ref q23, .int 0, .int 0]) hC hI kf7_21 dX7_init_30 rfl rfl rfl (Nat.le_of_ble_eq_true rfl) ?_
  refine k_ws (ws2 := (q, .inr (7, [.ref q7, .ref q15, .ref q23, .int 0, .int 0])) :: [(q7, .inl (E.2.2.1 0, 8, .inl (fun _ => 0))), (q15, .inl (E.2.2.1 0, 8, .inl (fun _ => 0))), (q23, .inl (E.2.2.1 0, 6, .inl (fun _ => 0)))]) rfl ?_
  refine k_aload (i := 0) (x := q) hC dX7_init_33 rfl rfl ?_
  refine k_iconst (v := 0) hC dX7_init_34 (by decide +kernel) ?_
  refine k_put (q0 := 0) (fs := [.ref q7, .ref q15, .ref q23, .int 0, .int 0]) hC hI kf7_25 dX7_init_35 rfl rfl rfl (Nat.le_of_ble_eq_true rfl) ?_
  refine k_ws (ws2 := (q, .inr (7, [.ref q7, .ref q15, .ref q23, .int 0, .int 0])) :: [(q7, .inl (E.2.2.1 0, 8, .inl (fun _ => 0))), (q15, .inl (E.2.2.1 0, 8, .inl (fun _ => 0))), (q23, .inl (E.2.2.1 0, 6, .inl (fun _ => 0)))]) rfl ?_
  exact k_vret hC hq (by decide) (by decide) dX7_init_38 (fun j => ([q7, q15, q23] : List Nat).getD j 0) rfl
theorem dX8_init_0 : decode cX8_init 0 = .ok (.aload_n 0, 1) := by decide +kernel
theorem dX8_init_1 : decode cX8_init 1 = .ok (.invokespecial 3, 3) := by decide +kernel
theorem dX8_init_4 : decode cX8_init 4 = .ok (.aload_n 0, 1) := by decide +kernel
theorem dX8_init_5 : decode cX8_init 5 = .ok (.sipush 256, 3) := by decide +kernel
theorem dX8_init_8 : decode cX8_init 8 = .ok (.newarray .int, 2) := by decide +kernel
theorem dX8_init_10 : decode cX8_init 10 = .ok (.putfield 9, 3) := by decide +kernel
theorem dX8_init_13 : decode cX8_init 13 = .ok (.aload_n 0, 1) := by decide +kernel
theorem dX8_init_14 : decode cX8_init 14 = .ok (.sipush 256, 3) := by decide +kernel
theorem dX8_init_17 : decode cX8_init 17 = .ok (.newarray .int, 2) := by decide +kernel
theorem dX8_init_19 : decode cX8_init 19 = .ok (.putfield 15, 3) := by decide +kernel
theorem dX8_init_22 : decode cX8_init 22 = .ok (.aload_n 0, 1) := by decide +kernel
theorem dX8_init_23 : decode cX8_init 23 = .ok (.bipush 81, 2) := by decide +kernel
theorem dX8_init_25 : decode cX8_init 25 = .ok (.newarray .int, 2) := by decide +kernel
theorem dX8_init_27 : decode cX8_init 27 = .ok (.putfield 18, 3) := by decide +kernel
theorem dX8_init_30 : decode cX8_init 30 = .ok (.return_, 1) := by decide +kernel
theorem cK8 (E : kE) (q : Nat) : CK E 1 3 593 yX8_init cX8_init 1 [.ref q] [(q, .inr (8, [.null, .null, .null]))] (bX8 E q) := by
  refine CK.of (by decide) (Nat.le_of_ble_eq_true rfl) (fun Γ hC hI hq => ?_)
  have hC : Kx E Γ RX8 cX8_init 1 1 3 593 := hC
  have hI := hI rfl
  show GC E Γ 0 0 1 0 [(0, .ref q)] [] [(q, .inr (8, [.null, .null, .null]))]
  refine k_aload (i := 0) (x := q) hC dX8_init_0 rfl rfl ?_
  refine k_objInit hC kt_242 kt_32 kt_33 dX8_init_1 (by decide) ?_
  refine k_aload (i := 0) (x := q) hC dX8_init_4 rfl rfl ?_
  refine k_sipush (v := 256) hC dX8_init_5 (by decide +kernel) ?_
  refine k_newa (t := 0) (N' := 256) (a0 := (256, .inl (fun _ => 0))) (ty := .int) hC kt_51 rfl rfl (fun _ => rfl) (by decide) (by decide +kernel) (by decide) (by decide) (by decide) dX8_init_8 (fun q8 => ?_)
  refine k_ws (ws2 := (q, .inr (8, [.null, .null, .null])) :: [(q8, .inl (E.2.2.1 0, 256, .inl (fun _ => 0)))]) rfl ?_
  refine k_put (q0 := 0) (fs := [.null, .null, .null]) hC hI kf8_9 dX8_init_10 rfl rfl rfl (Nat.le_of_ble_eq_true rfl) ?_
  refine k_ws (ws2 := (q, .inr (8, [.ref q8, .null, .null])) :: [(q8, .inl (E.2.2.1 0, 256, .inl (fun _ => 0)))]) rfl ?_
  refine k_aload (i := 0) (x := q) hC dX8_init_13 rfl rfl ?_
  refine k_sipush (v := 256) hC dX8_init_14 (by decide +kernel) ?_
  refine k_newa (t := 0) (N' := 256) (a0 := (256, .inl (fun _ => 0))) (ty := .int) hC kt_51 rfl rfl (fun _ => rfl) (by decide) (by decide +kernel) (by decide) (by decide) (by decide) dX8_init_17 (fun q17 => ?_)
  refine k_ws (ws2 := (q, .inr (8, [.ref q8, .null, .null])) :: [(q8, .inl (E.2.2.1 0, 256, .inl (fun _ => 0))), (q17, .inl (E.2.2.1 0, 256, .inl (fun _ => 0)))]) rfl ?_
  refine k_put (q0 := 0) (fs := [.ref q8, .null, .null]) hC hI kf8_15 dX8_init_19 rfl rfl rfl (Nat.le_of_ble_eq_true rfl) ?_
  refine k_ws (ws2 := (q, .inr (8, [.ref q8, .ref q17, .null])) :: [(q8, .inl (E.2.2.1 0, 256, .inl (fun _ => 0))), (q17, .inl (E.2.2.1 0, 256, .inl (fun _ => 0)))]) rfl ?_
  refine k_aload (i := 0) (x := q) hC dX8_init_22 rfl rfl ?_
  refine k_bipush (v := 81) hC dX8_init_23 (by decide +kernel) ?_
  refine k_newa (t := 0) (N' := 81) (a0 := (81, .inl (fun _ => 0))) (ty := .int) hC kt_51 rfl rfl (fun _ => rfl) (by decide) (by decide +kernel) (by decide) (by decide) (by decide) dX8_init_25 (fun q25 => ?_)
  refine k_ws (ws2 := (q, .inr (8, [.ref q8, .ref q17, .null])) :: [(q8, .inl (E.2.2.1 0, 256, .inl (fun _ => 0))), (q17, .inl (E.2.2.1 0, 256, .inl (fun _ => 0))), (q25, .inl (E.2.2.1 0, 81, .inl (fun _ => 0)))]) rfl ?_
  refine k_put (q0 := 0) (fs := [.ref q8, .ref q17, .null]) hC hI kf8_18 dX8_init_27 rfl rfl rfl (Nat.le_of_ble_eq_true rfl) ?_
  refine k_ws (ws2 := (q, .inr (8, [.ref q8, .ref q17, .ref q25])) :: [(q8, .inl (E.2.2.1 0, 256, .inl (fun _ => 0))), (q17, .inl (E.2.2.1 0, 256, .inl (fun _ => 0))), (q25, .inl (E.2.2.1 0, 81, .inl (fun _ => 0)))]) rfl ?_
  exact k_vret hC hq (by decide) (by decide) dX8_init_30 (fun j => ([q8, q17, q25] : List Nat).getD j 0) rfl
theorem dX9_init_0 : decode cX9_init 0 = .ok (.aload_n 0, 1) := by decide +kernel
theorem dX9_init_1 : decode cX9_init 1 = .ok (.invokespecial 3, 3) := by decide +kernel
theorem dX9_init_4 : decode cX9_init 4 = .ok (.aload_n 0, 1) := by decide +kernel
theorem dX9_init_5 : decode cX9_init 5 = .ok (.bipush 80, 2) := by decide +kernel
theorem dX9_init_7 : decode cX9_init 7 = .ok (.newarray .int, 2) := by decide +kernel
theorem dX9_init_9 : decode cX9_init 9 = .ok (.putfield 9, 3) := by decide +kernel
theorem dX9_init_12 : decode cX9_init 12 = .ok (.aload_n 0, 1) := by decide +kernel
theorem dX9_init_13 : decode cX9_init 13 = .ok (.iconst 0, 1) := by decide +kernel
theorem dX9_init_14 : decode cX9_init 14 = .ok (.putfield 15, 3) := by decide +kernel
theorem dX9_init_17 : decode cX9_init 17 = .ok (.return_, 1) := by decide +kernel
theorem cK9 (E : kE) (q : Nat) : CK E 1 1 80 yX9_init cX9_init 1 [.ref q] [(q, .inr (9, [.null, .int 0]))] (bX9 E q) := by
  refine CK.of (by decide) (Nat.le_of_ble_eq_true rfl) (fun Γ hC hI hq => ?_)
  have hC : Kx E Γ RX9 cX9_init 1 1 1 80 := hC
  have hI := hI rfl
  show GC E Γ 0 0 1 0 [(0, .ref q)] [] [(q, .inr (9, [.null, .int 0]))]
  refine k_aload (i := 0) (x := q) hC dX9_init_0 rfl rfl ?_
  refine k_objInit hC kt_39 kt_32 kt_33 dX9_init_1 (by decide) ?_
  refine k_aload (i := 0) (x := q) hC dX9_init_4 rfl rfl ?_
  refine k_bipush (v := 80) hC dX9_init_5 (by decide +kernel) ?_
  refine k_newa (t := 0) (N' := 80) (a0 := (80, .inl (fun _ => 0))) (ty := .int) hC kt_51 rfl rfl (fun _ => rfl) (by decide) (by decide +kernel) (by decide) (by decide) (by decide) dX9_init_7 (fun q7 => ?_)
  refine k_ws (ws2 := (q, .inr (9, [.null, .int 0])) :: [(q7, .inl (E.2.2.1 0, 80, .inl (fun _ => 0)))]) rfl ?_
  refine k_put (q0 := 0) (fs := [.null, .int 0]) hC hI kf9_9 dX9_init_9 rfl rfl rfl (Nat.le_of_ble_eq_true rfl) ?_
  refine k_ws (ws2 := (q, .inr (9, [.ref q7, .int 0])) :: [(q7, .inl (E.2.2.1 0, 80, .inl (fun _ => 0)))]) rfl ?_
  refine k_aload (i := 0) (x := q) hC dX9_init_12 rfl rfl ?_
  refine k_iconst (v := 0) hC dX9_init_13 (by decide +kernel) ?_
  refine k_put (q0 := 0) (fs := [.ref q7, .int 0]) hC hI kf9_15 dX9_init_14 rfl rfl rfl (Nat.le_of_ble_eq_true rfl) ?_
  refine k_ws (ws2 := (q, .inr (9, [.ref q7, .int 0])) :: [(q7, .inl (E.2.2.1 0, 80, .inl (fun _ => 0)))]) rfl ?_
  exact k_vret hC hq (by decide) (by decide) dX9_init_17 (fun j => ([q7] : List Nat).getD j 0) rfl
theorem dX5_init_0 : decode cX5_init 0 = .ok (.aload_n 0, 1) := by decide +kernel
theorem dX5_init_1 : decode cX5_init 1 = .ok (.invokespecial 3, 3) := by decide +kernel
theorem dX5_init_4 : decode cX5_init 4 = .ok (.aload_n 0, 1) := by decide +kernel
theorem dX5_init_5 : decode cX5_init 5 = .ok (.iconst 0, 1) := by decide +kernel
theorem dX5_init_6 : decode cX5_init 6 = .ok (.putfield 9, 3) := by decide +kernel
theorem dX5_init_9 : decode cX5_init 9 = .ok (.aload_n 0, 1) := by decide +kernel
theorem dX5_init_10 : decode cX5_init 10 = .ok (.iconst 0, 1) := by decide +kernel
theorem dX5_init_11 : decode cX5_init 11 = .ok (.putfield 15, 3) := by decide +kernel
theorem dX5_init_14 : decode cX5_init 14 = .ok (.aload_n 0, 1) := by decide +kernel
theorem dX5_init_15 : decode cX5_init 15 = .ok (.aload_n 1, 1) := by decide +kernel
theorem dX5_init_16 : decode cX5_init 16 = .ok (.putfield 18, 3) := by decide +kernel
theorem dX5_init_19 : decode cX5_init 19 = .ok (.aload_n 0, 1) := by decide +kernel
theorem dX5_init_20 : decode cX5_init 20 = .ok (.aload_n 2, 1) := by decide +kernel
theorem dX5_init_21 : decode cX5_init 21 = .ok (.putfield 22, 3) := by decide +kernel
theorem dX5_init_24 : decode cX5_init 24 = .ok (.return_, 1) := by decide +kernel
theorem cK5 (E : kE) (q x1 x2 : Nat) : CK E 1 0 0 yX5_init cX5_init 3 [.ref q, .ref x1, .ref x2] [(q, .inr (5, [.null, .null, .int 0, .int 0]))] (bX5 E q x1 x2) := by
  refine CK.of (by decide) (Nat.le_of_ble_eq_true rfl) (fun Γ hC hI hq => ?_)
  have hC : Kx E Γ RX5 cX5_init 3 1 0 0 := hC
  have hI := hI rfl
  show GC E Γ 0 0 3 0 [(0, .ref q), (1, .ref x1), (2, .ref x2)] [] [(q, .inr (5, [.null, .null, .int 0, .int 0]))]
  refine k_aload (i := 0) (x := q) hC dX5_init_0 rfl rfl ?_
  refine k_objInit hC kt_181 kt_32 kt_33 dX5_init_1 (by decide) ?_
  refine k_aload (i := 0) (x := q) hC dX5_init_4 rfl rfl ?_
  refine k_iconst (v := 0) hC dX5_init_5 (by decide +kernel) ?_
  refine k_put (q0 := 0) (fs := [.null, .null, .int 0, .int 0]) hC hI kf5_9 dX5_init_6 rfl rfl rfl (Nat.le_of_ble_eq_true rfl) ?_
  refine k_ws (ws2 := (q, .inr (5, [.null, .null, .int 0, .int 0])) :: []) rfl ?_
  refine k_aload (i := 0) (x := q) hC dX5_init_9 rfl rfl ?_
  refine k_iconst (v := 0) hC dX5_init_10 (by decide +kernel) ?_
  refine k_put (q0 := 0) (fs := [.null, .null, .int 0, .int 0]) hC hI kf5_15 dX5_init_11 rfl rfl rfl (Nat.le_of_ble_eq_true rfl) ?_
  refine k_ws (ws2 := (q, .inr (5, [.null, .null, .int 0, .int 0])) :: []) rfl ?_
  refine k_aload (i := 0) (x := q) hC dX5_init_14 rfl rfl ?_
  refine k_aload (i := 1) (x := x1) hC dX5_init_15 rfl rfl ?_
  refine k_put (q0 := 0) (fs := [.null, .null, .int 0, .int 0]) hC hI kf5_18 dX5_init_16 rfl rfl rfl (Nat.le_of_ble_eq_true rfl) ?_
  refine k_ws (ws2 := (q, .inr (5, [.ref x1, .null, .int 0, .int 0])) :: []) rfl ?_
  refine k_aload (i := 0) (x := q) hC dX5_init_19 rfl rfl ?_
  refine k_aload (i := 2) (x := x2) hC dX5_init_20 rfl rfl ?_
  refine k_put (q0 := 0) (fs := [.ref x1, .null, .int 0, .int 0]) hC hI kf5_22 dX5_init_21 rfl rfl rfl (Nat.le_of_ble_eq_true rfl) ?_
  refine k_ws (ws2 := (q, .inr (5, [.ref x1, .ref x2, .int 0, .int 0])) :: []) rfl ?_
  exact k_vret hC hq (by decide) (by decide) dX5_init_24 (fun j => ([] : List Nat).getD j 0) rfl
theorem dX12_init_0 : decode cX12_init 0 = .ok (.aload_n 0, 1) := by decide +kernel
theorem dX12_init_1 : decode cX12_init 1 = .ok (.invokespecial 3, 3) := by decide +kernel
theorem dX12_init_4 : decode cX12_init 4 = .ok (.aload_n 0, 1) := by decide +kernel
theorem dX12_init_5 : decode cX12_init 5 = .ok (.bipush 26, 2) := by decide +kernel
theorem dX12_init_7 : decode cX12_init 7 = .ok (.newarray .int, 2) := by decide +kernel
theorem dX12_init_9 : decode cX12_init 9 = .ok (.putfield 9, 3) := by decide +kernel
theorem dX12_init_12 : decode cX12_init 12 = .ok (.aload_n 0, 1) := by decide +kernel
theorem dX12_init_13 : decode cX12_init 13 = .ok (.bipush 30, 2) := by decide +kernel
theorem dX12_init_15 : decode cX12_init 15 = .ok (.putfield 13, 3) := by decide +kernel
theorem dX12_init_18 : decode cX12_init 18 = .ok (.aload_n 0, 1) := by decide +kernel
theorem dX12_init_19 : decode cX12_init 19 = .ok (.iconst 3, 1) := by decide +kernel
theorem dX12_init_20 : decode cX12_init 20 = .ok (.putfield 17, 3) := by decide +kernel
theorem dX12_init_23 : decode cX12_init 23 = .ok (.aload_n 0, 1) := by decide +kernel
theorem dX12_init_24 : decode cX12_init 24 = .ok (.bipush 8, 2) := by decide +kernel
theorem dX12_init_26 : decode cX12_init 26 = .ok (.newarray .int, 2) := by decide +kernel
theorem dX12_init_28 : decode cX12_init 28 = .ok (.putfield 20, 3) := by decide +kernel
theorem dX12_init_31 : decode cX12_init 31 = .ok (.aload_n 0, 1) := by decide +kernel
theorem dX12_init_32 : decode cX12_init 32 = .ok (.bipush 8, 2) := by decide +kernel
theorem dX12_init_34 : decode cX12_init 34 = .ok (.newarray .int, 2) := by decide +kernel
theorem dX12_init_36 : decode cX12_init 36 = .ok (.putfield 23, 3) := by decide +kernel
theorem dX12_init_39 : decode cX12_init 39 = .ok (.aload_n 0, 1) := by decide +kernel
theorem dX12_init_40 : decode cX12_init 40 = .ok (.bipush 6, 2) := by decide +kernel
theorem dX12_init_42 : decode cX12_init 42 = .ok (.newarray .int, 2) := by decide +kernel
theorem dX12_init_44 : decode cX12_init 44 = .ok (.putfield 26, 3) := by decide +kernel
theorem dX12_init_47 : decode cX12_init 47 = .ok (.aload_n 0, 1) := by decide +kernel
theorem dX12_init_48 : decode cX12_init 48 = .ok (.bipush 80, 2) := by decide +kernel
theorem dX12_init_50 : decode cX12_init 50 = .ok (.newarray .byte, 2) := by decide +kernel
theorem dX12_init_52 : decode cX12_init 52 = .ok (.putfield 29, 3) := by decide +kernel
theorem dX12_init_55 : decode cX12_init 55 = .ok (.aload_n 0, 1) := by decide +kernel
theorem dX12_init_56 : decode cX12_init 56 = .ok (.bipush 16, 2) := by decide +kernel
theorem dX12_init_58 : decode cX12_init 58 = .ok (.newarray .long, 2) := by decide +kernel
theorem dX12_init_60 : decode cX12_init 60 = .ok (.putfield 33, 3) := by decide +kernel
theorem dX12_init_63 : decode cX12_init 63 = .ok (.aload_n 0, 1) := by decide +kernel
theorem dX12_init_64 : decode cX12_init 64 = .ok (.bipush 16, 2) := by decide +kernel
theorem dX12_init_66 : decode cX12_init 66 = .ok (.newarray .int, 2) := by decide +kernel
theorem dX12_init_68 : decode cX12_init 68 = .ok (.putfield 37, 3) := by decide +kernel
theorem dX12_init_71 : decode cX12_init 71 = .ok (.aload_n 0, 1) := by decide +kernel
theorem dX12_init_72 : decode cX12_init 72 = .ok (.bipush 40, 2) := by decide +kernel
theorem dX12_init_74 : decode cX12_init 74 = .ok (.newarray .byte, 2) := by decide +kernel
theorem dX12_init_76 : decode cX12_init 76 = .ok (.putfield 40, 3) := by decide +kernel
theorem dX12_init_79 : decode cX12_init 79 = .ok (.aload_n 0, 1) := by decide +kernel
theorem dX12_init_80 : decode cX12_init 80 = .ok (.bipush 40, 2) := by decide +kernel
theorem dX12_init_82 : decode cX12_init 82 = .ok (.newarray .byte, 2) := by decide +kernel
theorem dX12_init_84 : decode cX12_init 84 = .ok (.putfield 43, 3) := by decide +kernel
theorem dX12_init_87 : decode cX12_init 87 = .ok (.aload_n 0, 1) := by decide +kernel
theorem dX12_init_88 : decode cX12_init 88 = .ok (.bipush 6, 2) := by decide +kernel
theorem dX12_init_90 : decode cX12_init 90 = .ok (.newarray .int, 2) := by decide +kernel
theorem dX12_init_92 : decode cX12_init 92 = .ok (.putfield 46, 3) := by decide +kernel
theorem dX12_init_95 : decode cX12_init 95 = .ok (.aload_n 0, 1) := by decide +kernel
theorem dX12_init_96 : decode cX12_init 96 = .ok (.sipush 312, 3) := by decide +kernel
theorem dX12_init_99 : decode cX12_init 99 = .ok (.newarray .int, 2) := by decide +kernel
theorem dX12_init_101 : decode cX12_init 101 = .ok (.putfield 49, 3) := by decide +kernel
theorem dX12_init_104 : decode cX12_init 104 = .ok (.aload_n 0, 1) := by decide +kernel
theorem dX12_init_105 : decode cX12_init 105 = .ok (.bipush 26, 2) := by decide +kernel
theorem dX12_init_107 : decode cX12_init 107 = .ok (.newarray .int, 2) := by decide +kernel
theorem dX12_init_109 : decode cX12_init 109 = .ok (.putfield 52, 3) := by decide +kernel
theorem dX12_init_112 : decode cX12_init 112 = .ok (.aload_n 0, 1) := by decide +kernel
theorem dX12_init_113 : decode cX12_init 113 = .ok (.bipush 26, 2) := by decide +kernel
theorem dX12_init_115 : decode cX12_init 115 = .ok (.newarray .int, 2) := by decide +kernel
theorem dX12_init_117 : decode cX12_init 117 = .ok (.putfield 55, 3) := by decide +kernel
theorem dX12_init_120 : decode cX12_init 120 = .ok (.aload_n 0, 1) := by decide +kernel
theorem dX12_init_121 : decode cX12_init 121 = .ok (.sipush 240, 3) := by decide +kernel
theorem dX12_init_124 : decode cX12_init 124 = .ok (.newarray .int, 2) := by decide +kernel
theorem dX12_init_126 : decode cX12_init 126 = .ok (.putfield 58, 3) := by decide +kernel
theorem dX12_init_129 : decode cX12_init 129 = .ok (.aload_n 0, 1) := by decide +kernel
theorem dX12_init_130 : decode cX12_init 130 = .ok (.sipush 1792, 3) := by decide +kernel
theorem dX12_init_133 : decode cX12_init 133 = .ok (.newarray .int, 2) := by decide +kernel
theorem dX12_init_135 : decode cX12_init 135 = .ok (.putfield 61, 3) := by decide +kernel
theorem dX12_init_138 : decode cX12_init 138 = .ok (.aload_n 0, 1) := by decide +kernel
theorem dX12_init_139 : decode cX12_init 139 = .ok (.bipush 12, 2) := by decide +kernel
theorem dX12_init_141 : decode cX12_init 141 = .ok (.newarray .int, 2) := by decide +kernel
theorem dX12_init_143 : decode cX12_init 143 = .ok (.putfield 64, 3) := by decide +kernel
theorem dX12_init_146 : decode cX12_init 146 = .ok (.aload_n 0, 1) := by decide +kernel
theorem dX12_init_147 : decode cX12_init 147 = .ok (.bipush 6, 2) := by decide +kernel
theorem dX12_init_149 : decode cX12_init 149 = .ok (.newarray .long, 2) := by decide +kernel
theorem dX12_init_151 : decode cX12_init 151 = .ok (.putfield 67, 3) := by decide +kernel
theorem dX12_init_154 : decode cX12_init 154 = .ok (.aload_n 0, 1) := by decide +kernel
theorem dX12_init_155 : decode cX12_init 155 = .ok (.bipush 10, 2) := by decide +kernel
theorem dX12_init_157 : decode cX12_init 157 = .ok (.newarray .int, 2) := by decide +kernel
theorem dX12_init_159 : decode cX12_init 159 = .ok (.putfield 70, 3) := by decide +kernel
theorem dX12_init_162 : decode cX12_init 162 = .ok (.aload_n 0, 1) := by decide +kernel
theorem dX12_init_163 : decode cX12_init 163 = .ok (.bipush 6, 2) := by decide +kernel
theorem dX12_init_165 : decode cX12_init 165 = .ok (.newarray .long, 2) := by decide +kernel
theorem dX12_init_167 : decode cX12_init 167 = .ok (.putfield 73, 3) := by decide +kernel
theorem dX12_init_170 : decode cX12_init 170 = .ok (.aload_n 0, 1) := by decide +kernel
theorem dX12_init_171 : decode cX12_init 171 = .ok (.bipush 52, 2) := by decide +kernel
theorem dX12_init_173 : decode cX12_init 173 = .ok (.newarray .int, 2) := by decide +kernel
theorem dX12_init_175 : decode cX12_init 175 = .ok (.putfield 76, 3) := by decide +kernel
theorem dX12_init_178 : decode cX12_init 178 = .ok (.aload_n 0, 1) := by decide +kernel
theorem dX12_init_179 : decode cX12_init 179 = .ok (.iconst 2, 1) := by decide +kernel
theorem dX12_init_180 : decode cX12_init 180 = .ok (.newarray .boolean, 2) := by decide +kernel
theorem dX12_init_182 : decode cX12_init 182 = .ok (.putfield 79, 3) := by decide +kernel
theorem dX12_init_185 : decode cX12_init 185 = .ok (.aload_n 0, 1) := by decide +kernel
theorem dX12_init_186 : decode cX12_init 186 = .ok (.iconst 2, 1) := by decide +kernel
theorem dX12_init_187 : decode cX12_init 187 = .ok (.newarray .int, 2) := by decide +kernel
theorem dX12_init_189 : decode cX12_init 189 = .ok (.putfield 83, 3) := by decide +kernel
theorem dX12_init_192 : decode cX12_init 192 = .ok (.return_, 1) := by decide +kernel
theorem cK12 (E : kE) (q : Nat) : CK E 1 22 2732 yX12_init cX12_init 1 [.ref q] [(q, .inr (12, [.null, .int 0, .int 0, .int 0, .int 0, .null, .null, .null, .null, .int 0, .null, .int 0, .int 0, .null, .int 0, .int 0, .int 0, .int 0, .null, .null, .null, .int 0, .int 0, .null, .null, .int 0, .null, .null, .null, .null, .null, .int 0, .int 0, .null, .null, .null, .int 0, .int 0, .null, .null, .null]))] (bX12 E q) := by
  refine CK.of (by decide) (Nat.le_of_ble_eq_true rfl) (fun Γ hC hI hq => ?_)
  have hC : Kx E Γ RX12 cX12_init 1 1 22 2732 := hC
  have hI := hI rfl
  show GC E Γ 0 0 1 0 [(0, .ref q)] [] [(q, .inr (12, [.null, .int 0, .int 0, .int 0, .int 0, .null, .null, .null, .null, .int 0, .null, .int 0, .int 0, .null, .int 0, .int 0, .int 0, .int 0, .null, .null, .null, .int 0, .int 0, .null, .null, .int 0, .null, .null, .null, .null, .null, .int 0, .int 0, .null, .null, .null, .int 0, .int 0, .null, .null, .null]))]
  refine k_aload (i := 0) (x := q) hC dX12_init_0 rfl rfl ?_
  refine k_objInit hC kt_1101 kt_32 kt_33 dX12_init_1 (by decide) ?_
  refine k_aload (i := 0) (x := q) hC dX12_init_4 rfl rfl ?_
  refine k_bipush (v := 26) hC dX12_init_5 (by decide +kernel) ?_
  refine k_newa (t := 0) (N' := 26) (a0 := (26, .inl (fun _ => 0))) (ty := .int) hC kt_51 rfl rfl (fun _ => rfl) (by decide) (by decide +kernel) (by decide) (by decide) (by decide) dX12_init_7 (fun q7 => ?_)
  refine k_ws (ws2 := (q, .inr (12, [.null, .int 0, .int 0, .int 0, .int 0, .null, .null, .null, .null, .int 0, .null, .int 0, .int 0, .null, .int 0, .int 0, .int 0, .int 0, .null, .null, .null, .int 0, .int 0, .null, .null, .int 0, .null, .null, .null, .null, .null, .int 0, .int 0, .null, .null, .null, .int 0, .int 0, .null, .null, .null])) :: [(q7, .inl (E.2.2.1 0, 26, .inl (fun _ => 0)))]) rfl ?_
  refine k_put (q0 := 0) (fs := [.null, .int 0, .int 0, .int 0, .int 0, .null, .null, .null, .null, .int 0, .null, .int 0, .int 0, .null, .int 0, .int 0, .int 0, .int 0, .null, .null, .null, .int 0, .int 0, .null, .null, .int 0, .null, .null, .null, .null, .null, .int 0, .int 0, .null, .null, .null, .int 0, .int 0, .null, .null, .null]) hC hI kf12_9 dX12_init_9 rfl rfl rfl (Nat.le_of_ble_eq_true rfl) ?_
  refine k_ws (ws2 := (q, .inr (12, [.ref q7, .int 0, .int 0, .int 0, .int 0, .null, .null, .null, .null, .int 0, .null, .int 0, .int 0, .null, .int 0, .int 0, .int 0, .int 0, .null, .null, .null, .int 0, .int 0, .null, .null, .int 0, .null, .null, .null, .null, .null, .int 0, .int 0, .null, .null, .null, .int 0, .int 0, .null, .null, .null])) :: [(q7, .inl (E.2.2.1 0, 26, .inl (fun _ => 0)))]) rfl ?_
  refine k_aload (i := 0) (x := q) hC dX12_init_12 rfl rfl ?_
  refine k_bipush (v := 30) hC dX12_init_13 (by decide +kernel) ?_
  refine k_put (q0 := 0) (fs := [.ref q7, .int 0, .int 0, .int 0, .int 0, .null, .null, .null, .null, .int 0, .null, .int 0, .int 0, .null, .int 0, .int 0, .int 0, .int 0, .null, .null, .null, .int 0, .int 0, .null, .null, .int 0, .null, .null, .null, .null, .null, .int 0, .int 0, .null, .null, .null, .int 0, .int 0, .null, .null, .null]) hC hI kf12_13 dX12_init_15 rfl rfl rfl (Nat.le_of_ble_eq_true rfl) ?_
  refine k_ws (ws2 := (q, .inr (12, [.ref q7, .int 0, .int 0, .int 30, .int 0, .null, .null, .null, .null, .int 0, .null, .int 0, .int 0, .null, .int 0, .int 0, .int 0, .int 0, .null, .null, .null, .int 0, .int 0, .null, .null, .int 0, .null, .null, .null, .null, .null, .int 0, .int 0, .null, .null, .null, .int 0, .int 0, .null, .null, .null])) :: [(q7, .inl (E.2.2.1 0, 26, .inl (fun _ => 0)))]) rfl ?_
  refine k_aload (i := 0) (x := q) hC dX12_init_18 rfl rfl ?_
  refine k_iconst (v := 3) hC dX12_init_19 (by decide +kernel) ?_
  refine k_put (q0 := 0) (fs := [.ref q7, .int 0, .int 0, .int 30, .int 0, .null, .null, .null, .null, .int 0, .null, .int 0, .int 0, .null, .int 0, .int 0, .int 0, .int 0, .null, .null, .null, .int 0, .int 0, .null, .null, .int 0, .null, .null, .null, .null, .null, .int 0, .int 0, .null, .null, .null, .int 0, .int 0, .null, .null, .null]) hC hI kf12_17 dX12_init_20 rfl rfl rfl (Nat.le_of_ble_eq_true rfl) ?_
  refine k_ws (ws2 := (q, .inr (12, [.ref q7, .int 0, .int 0, .int 30, .int 3, .null, .null, .null, .null, .int 0, .null, .int 0, .int 0, .null, .int 0, .int 0, .int 0, .int 0, .null, .null, .null, .int 0, .int 0, .null, .null, .int 0, .null, .null, .null, .null, .null, .int 0, .int 0, .null, .null, .null, .int 0, .int 0, .null, .null, .null])) :: [(q7, .inl (E.2.2.1 0, 26, .inl (fun _ => 0)))]) rfl ?_
  refine k_aload (i := 0) (x := q) hC dX12_init_23 rfl rfl ?_
  refine k_bipush (v := 8) hC dX12_init_24 (by decide +kernel) ?_
  refine k_newa (t := 0) (N' := 8) (a0 := (8, .inl (fun _ => 0))) (ty := .int) hC kt_51 rfl rfl (fun _ => rfl) (by decide) (by decide +kernel) (by decide) (by decide) (by decide) dX12_init_26 (fun q26 => ?_)
  refine k_ws (ws2 := (q, .inr (12, [.ref q7, .int 0, .int 0, .int 30, .int 3, .null, .null, .null, .null, .int 0, .null, .int 0, .int 0, .null, .int 0, .int 0, .int 0, .int 0, .null, .null, .null, .int 0, .int 0, .null, .null, .int 0, .null, .null, .null, .null, .null, .int 0, .int 0, .null, .null, .null, .int 0, .int 0, .null, .null, .null])) :: [(q7, .inl (E.2.2.1 0, 26, .inl (fun _ => 0))), (q26, .inl (E.2.2.1 0, 8, .inl (fun _ => 0)))]) rfl ?_
  refine k_put (q0 := 0) (fs := [.ref q7, .int 0, .int 0, .int 30, .int 3, .null, .null, .null, .null, .int 0, .null, .int 0, .int 0, .null, .int 0, .int 0, .int 0, .int 0, .null, .null, .null, .int 0, .int 0, .null, .null, .int 0, .null, .null, .null, .null, .null, .int 0, .int 0, .null, .null, .null, .int 0, .int 0, .null, .null, .null]) hC hI kf12_20 dX12_init_28 rfl rfl rfl (Nat.le_of_ble_eq_true rfl) ?_
  refine k_ws (ws2 := (q, .inr (12, [.ref q7, .int 0, .int 0, .int 30, .int 3, .ref q26, .null, .null, .null, .int 0, .null, .int 0, .int 0, .null, .int 0, .int 0, .int 0, .int 0, .null, .null, .null, .int 0, .int 0, .null, .null, .int 0, .null, .null, .null, .null, .null, .int 0, .int 0, .null, .null, .null, .int 0, .int 0, .null, .null, .null])) :: [(q7, .inl (E.2.2.1 0, 26, .inl (fun _ => 0))), (q26, .inl (E.2.2.1 0, 8, .inl (fun _ => 0)))]) rfl ?_
  refine k_aload (i := 0) (x := q) hC dX12_init_31 rfl rfl ?_
  refine k_bipush (v := 8) hC dX12_init_32 (by decide +kernel) ?_
  refine k_newa (t := 0) (N' := 8) (a0 := (8, .inl (fun _ => 0))) (ty := .int) hC kt_51 rfl rfl (fun _ => rfl) (by decide) (by decide +kernel) (by decide) (by decide) (by decide) dX12_init_34 (fun q34 => ?_)
  refine k_ws (ws2 := (q, .inr (12, [.ref q7, .int 0, .int 0, .int 30, .int 3, .ref q26, .null, .null, .null, .int 0, .null, .int 0, .int 0, .null, .int 0, .int 0, .int 0, .int 0, .null, .null, .null, .int 0, .int 0, .null, .null, .int 0, .null, .null, .null, .null, .null, .int 0, .int 0, .null, .null, .null, .int 0, .int 0, .null, .null, .null])) :: [(q7, .inl (E.2.2.1 0, 26, .inl (fun _ => 0))), (q26, .inl (E.2.2.1 0, 8, .inl (fun _ => 0))), (q34, .inl (E.2.2.1 0, 8, .inl (fun _ => 0)))]) rfl ?_
  refine k_put (q0 := 0) (fs := [.ref q7, .int 0, .int 0, .int 30, .int 3, .ref q26, .null, .null, .null, .int 0, .null, .int 0, .int 0, .null, .int 0, .int 0, .int 0, .int 0, .null, .null, .null, .int 0, .int 0, .null, .null, .int 0, .null, .null, .null, .null, .null, .int 0, .int 0, .null, .null, .null, .int 0, .int 0, .null, .null, .null]) hC hI kf12_23 dX12_init_36 rfl rfl rfl (Nat.le_of_ble_eq_true rfl) ?_
  refine k_ws (ws2 := (q, .inr (12, [.ref q7, .int 0, .int 0, .int 30, .int 3, .ref q26, .ref q34, .null, .null, .int 0, .null, .int 0, .int 0, .null, .int 0, .int 0, .int 0, .int 0, .null, .null, .null, .int 0, .int 0, .null, .null, .int 0, .null, .null, .null, .null, .null, .int 0, .int 0, .null, .null, .null, .int 0, .int 0, .null, .null, .null])) :: [(q7, .inl (E.2.2.1 0, 26, .inl (fun _ => 0))), (q26, .inl (E.2.2.1 0, 8, .inl (fun _ => 0))), (q34, .inl (E.2.2.1 0, 8, .inl (fun _ => 0)))]) rfl ?_
  refine k_aload (i := 0) (x := q) hC dX12_init_39 rfl rfl ?_
  refine k_bipush (v := 6) hC dX12_init_40 (by decide +kernel) ?_
  refine k_newa (t := 0) (N' := 6) (a0 := (6, .inl (fun _ => 0))) (ty := .int) hC kt_51 rfl rfl (fun _ => rfl) (by decide) (by decide +kernel) (by decide) (by decide) (by decide) dX12_init_42 (fun q42 => ?_)
  refine k_ws (ws2 := (q, .inr (12, [.ref q7, .int 0, .int 0, .int 30, .int 3, .ref q26, .ref q34, .null, .null, .int 0, .null, .int 0, .int 0, .null, .int 0, .int 0, .int 0, .int 0, .null, .null, .null, .int 0, .int 0, .null, .null, .int 0, .null, .null, .null, .null, .null, .int 0, .int 0, .null, .null, .null, .int 0, .int 0, .null, .null, .null])) :: [(q7, .inl (E.2.2.1 0, 26, .inl (fun _ => 0))), (q26, .inl (E.2.2.1 0, 8, .inl (fun _ => 0))), (q34, .inl (E.2.2.1 0, 8, .inl (fun _ => 0))), (q42, .inl (E.2.2.1 0, 6, .inl (fun _ => 0)))]) rfl ?_
  refine k_put (q0 := 0) (fs := [.ref q7, .int 0, .int 0, .int 30, .int 3, .ref q26, .ref q34, .null, .null, .int 0, .null, .int 0, .int 0, .null, .int 0, .int 0, .int 0, .int 0, .null, .null, .null, .int 0, .int 0, .null, .null, .int 0, .null, .null, .null, .null, .null, .int 0, .int 0, .null, .null, .null, .int 0, .int 0, .null, .null, .null]) hC hI kf12_26 dX12_init_44 rfl rfl rfl (Nat.le_of_ble_eq_true rfl) ?_
  refine k_ws (ws2 := (q, .inr (12, [.ref q7, .int 0, .int 0, .int 30, .int 3, .ref q26, .ref q34, .ref q42, .null, .int 0, .null, .int 0, .int 0, .null, .int 0, .int 0, .int 0, .int 0, .null, .null, .null, .int 0, .int 0, .null, .null, .int 0, .null, .null, .null, .null, .null, .int 0, .int 0, .null, .null, .null, .int 0, .int 0, .null, .null, .null])) :: [(q7, .inl (E.2.2.1 0, 26, .inl (fun _ => 0))), (q26, .inl (E.2.2.1 0, 8, .inl (fun _ => 0))), (q34, .inl (E.2.2.1 0, 8, .inl (fun _ => 0))), (q42, .inl (E.2.2.1 0, 6, .inl (fun _ => 0)))]) rfl ?_
  refine k_aload (i := 0) (x := q) hC dX12_init_47 rfl rfl ?_
  refine k_bipush (v := 80) hC dX12_init_48 (by decide +kernel) ?_
  refine k_newa (t := 3) (N' := 80) (a0 := (80, .inl (fun _ => 0))) (ty := .byte) hC kt_534 rfl rfl (fun _ => rfl) (by decide) (by decide +kernel) (by decide) (by decide) (by decide) dX12_init_50 (fun q50 => ?_)
  refine k_ws (ws2 := (q, .inr (12, [.ref q7, .int 0, .int 0, .int 30, .int 3, .ref q26, .ref q34, .ref q42, .null, .int 0, .null, .int 0, .int 0, .null, .int 0, .int 0, .int 0, .int 0, .null, .null, .null, .int 0, .int 0, .null, .null, .int 0, .null, .null, .null, .null, .null, .int 0, .int 0, .null, .null, .null, .int 0, .int 0, .null, .null, .null])) :: [(q7, .inl (E.2.2.1 0, 26, .inl (fun _ => 0))), (q26, .inl (E.2.2.1 0, 8, .inl (fun _ => 0))), (q34, .inl (E.2.2.1 0, 8, .inl (fun _ => 0))), (q42, .inl (E.2.2.1 0, 6, .inl (fun _ => 0))), (q50, .inl (E.2.2.1 3, 80, .inl (fun _ => 0)))]) rfl ?_
  refine k_put (q0 := 0) (fs := [.ref q7, .int 0, .int 0, .int 30, .int 3, .ref q26, .ref q34, .ref q42, .null, .int 0, .null, .int 0, .int 0, .null, .int 0, .int 0, .int 0, .int 0, .null, .null, .null, .int 0, .int 0, .null, .null, .int 0, .null, .null, .null, .null, .null, .int 0, .int 0, .null, .null, .null, .int 0, .int 0, .null, .null, .null]) hC hI kf12_29 dX12_init_52 rfl rfl rfl (Nat.le_of_ble_eq_true rfl) ?_
  refine k_ws (ws2 := (q, .inr (12, [.ref q7, .int 0, .int 0, .int 30, .int 3, .ref q26, .ref q34, .ref q42, .ref q50, .int 0, .null, .int 0, .int 0, .null, .int 0, .int 0, .int 0, .int 0, .null, .null, .null, .int 0, .int 0, .null, .null, .int 0, .null, .null, .null, .null, .null, .int 0, .int 0, .null, .null, .null, .int 0, .int 0, .null, .null, .null])) :: [(q7, .inl (E.2.2.1 0, 26, .inl (fun _ => 0))), (q26, .inl (E.2.2.1 0, 8, .inl (fun _ => 0))), (q34, .inl (E.2.2.1 0, 8, .inl (fun _ => 0))), (q42, .inl (E.2.2.1 0, 6, .inl (fun _ => 0))), (q50, .inl (E.2.2.1 3, 80, .inl (fun _ => 0)))]) rfl ?_
  refine k_aload (i := 0) (x := q) hC dX12_init_55 rfl rfl ?_
  refine k_bipush (v := 16) hC dX12_init_56 (by decide +kernel) ?_
  refine k_newa (t := 1) (N' := 16) (a0 := (16, .inr (.inl (fun _ => 0)))) (ty := .long) hC kt_67 rfl rfl (fun _ => rfl) (by decide) (by decide +kernel) (by decide) (by decide) (by decide) dX12_init_58 (fun q58 => ?_)
  refine k_ws (ws2 := (q, .inr (12, [.ref q7, .int 0, .int 0, .int 30, .int 3, .ref q26, .ref q34, .ref q42, .ref q50, .int 0, .null, .int 0, .int 0, .null, .int 0, .int 0, .int 0, .int 0, .null, .null, .null, .int 0, .int 0, .null, .null, .int 0, .null, .null, .null, .null, .null, .int 0, .int 0, .null, .null, .null, .int 0, .int 0, .null, .null, .null])) :: [(q7, .inl (E.2.2.1 0, 26, .inl (fun _ => 0))), (q26, .inl (E.2.2.1 0, 8, .inl (fun _ => 0))), (q34, .inl (E.2.2.1 0, 8, .inl (fun _ => 0))), (q42, .inl (E.2.2.1 0, 6, .inl (fun _ => 0))), (q50, .inl (E.2.2.1 3, 80, .inl (fun _ => 0))), (q58, .inl (E.2.2.1 1, 16, .inr (.inl (fun _ => 0))))]) rfl ?_
  refine k_put (q0 := 0) (fs := [.ref q7, .int 0, .int 0, .int 30, .int 3, .ref q26, .ref q34, .ref q42, .ref q50, .int 0, .null, .int 0, .int 0, .null, .int 0, .int 0, .int 0, .int 0, .null, .null, .null, .int 0, .int 0, .null, .null, .int 0, .null, .null, .null, .null, .null, .int 0, .int 0, .null, .null, .null, .int 0, .int 0, .null, .null, .null]) hC hI kf12_33 dX12_init_60 rfl rfl rfl (Nat.le_of_ble_eq_true rfl) ?_
  refine k_ws (ws2 := (q, .inr (12, [.ref q7, .int 0, .int 0, .int 30, .int 3, .ref q26, .ref q34, .ref q42, .ref q50, .int 0, .ref q58, .int 0, .int 0, .null, .int 0, .int 0, .int 0, .int 0, .null, .null, .null, .int 0, .int 0, .null, .null, .int 0, .null, .null, .null, .null, .null, .int 0, .int 0, .null, .null, .null, .int 0, .int 0, .null, .null, .null])) :: [(q7, .inl (E.2.2.1 0, 26, .inl (fun _ => 0))), (q26, .inl (E.2.2.1 0, 8, .inl (fun _ => 0))), (q34, .inl (E.2.2.1 0, 8, .inl (fun _ => 0))), (q42, .inl (E.2.2.1 0, 6, .inl (fun _ => 0))), (q50, .inl (E.2.2.1 3, 80, .inl (fun _ => 0))), (q58, .inl (E.2.2.1 1, 16, .inr (.inl (fun _ => 0))))]) rfl ?_
  refine k_aload (i := 0) (x := q) hC dX12_init_63 rfl rfl ?_
  refine k_bipush (v := 16) hC dX12_init_64 (by decide +kernel) ?_
  refine k_newa (t := 0) (N' := 16) (a0 := (16, .inl (fun _ => 0))) (ty := .int) hC kt_51 rfl rfl (fun _ => rfl) (by decide) (by decide +kernel) (by decide) (by decide) (by decide) dX12_init_66 (fun q66 => ?_)
  refine k_ws (ws2 := (q, .inr (12, [.ref q7, .int 0, .int 0, .int 30, .int 3, .ref q26, .ref q34, .ref q42, .ref q50, .int 0, .ref q58, .int 0, .int 0, .null, .int 0, .int 0, .int 0, .int 0, .null, .null, .null, .int 0, .int 0, .null, .null, .int 0, .null, .null, .null, .null, .null, .int 0, .int 0, .null, .null, .null, .int 0, .int 0, .null, .null, .null])) :: [(q7, .inl (E.2.2.1 0, 26, .inl (fun _ => 0))), (q26, .inl (E.2.2.1 0, 8, .inl (fun _ => 0))), (q34, .inl (E.2.2.1 0, 8, .inl (fun _ => 0))), (q42, .inl (E.2.2.1 0, 6, .inl (fun _ => 0))), (q50, .inl (E.2.2.1 3, 80, .inl (fun _ => 0))), (q58, .inl (E.2.2.1 1, 16, .inr (.inl (fun _ => 0)))), (q66, .inl (E.2.2.1 0, 16, .inl (fun _ => 0)))]) rfl ?_
  refine k_put (q0 := 0) (fs := [.ref q7, .int 0, .int 0, .int 30, .int 3, .ref q26, .ref q34, .ref q42, .ref q50, .int 0, .ref q58, .int 0, .int 0, .null, .int 0, .int 0, .int 0, .int 0, .null, .null, .null, .int 0, .int 0, .null, .null, .int 0, .null, .null, .null, .null, .null, .int 0, .int 0, .null, .null, .null, .int 0, .int 0, .null, .null, .null]) hC hI kf12_37 dX12_init_68 rfl rfl rfl (Nat.le_of_ble_eq_true rfl) ?_
  refine k_ws (ws2 := (q, .inr (12, [.ref q7, .int 0, .int 0, .int 30, .int 3, .ref q26, .ref q34, .ref q42, .ref q50, .int 0, .ref q58, .int 0, .int 0, .null, .int 0, .int 0, .int 0, .int 0, .ref q66, .null, .null, .int 0, .int 0, .null, .null, .int 0, .null, .null, .null, .null, .null, .int 0, .int 0, .null, .null, .null, .int 0, .int 0, .null, .null, .null])) :: [(q7, .inl (E.2.2.1 0, 26, .inl (fun _ => 0))), (q26, .inl (E.2.2.1 0, 8, .inl (fun _ => 0))), (q34, .inl (E.2.2.1 0, 8, .inl (fun _ => 0))), (q42, .inl (E.2.2.1 0, 6, .inl (fun _ => 0))), (q50, .inl (E.2.2.1 3, 80, .inl (fun _ => 0))), (q58, .inl (E.2.2.1 1, 16, .inr (.inl (fun _ => 0)))), (q66, .inl (E.2.2.1 0, 16, .inl (fun _ => 0)))]) rfl ?_
  refine k_aload (i := 0) (x := q) hC dX12_init_71 rfl rfl ?_
  refine k_bipush (v := 40) hC dX12_init_72 (by decide +kernel) ?_
  refine k_newa (t := 3) (N' := 40) (a0 := (40, .inl (fun _ => 0))) (ty := .byte) hC kt_534 rfl rfl (fun _ => rfl) (by decide) (by decide +kernel) (by decide) (by decide) (by decide) dX12_init_74 (fun q74 => ?_)
  refine k_ws (ws2 := (q, .inr (12, [.ref q7, .int 0, .int 0, .int 30, .int 3, .ref q26, .ref q34, .ref q42, .ref q50, .int 0, .ref q58, .int 0, .int 0, .null, .int 0, .int 0, .int 0, .int 0, .ref q66, .null, .null, .int 0, .int 0, .null, .null, .int 0, .null, .null, .null, .null, .null, .int 0, .int 0, .null, .null, .null, .int 0, .int 0, .null, .null, .null])) :: [(q7, .inl (E.2.2.1 0, 26, .inl (fun _ => 0))), (q26, .inl (E.2.2.1 0, 8, .inl (fun _ => 0))), (q34, .inl (E.2.2.1 0, 8, .inl (fun _ => 0))), (q42, .inl (E.2.2.1 0, 6, .inl (fun _ => 0))), (q50, .inl (E.2.2.1 3, 80, .inl (fun _ => 0))), (q58, .inl (E.2.2.1 1, 16, .inr (.inl (fun _ => 0)))), (q66, .inl (E.2.2.1 0, 16, .inl (fun _ => 0))), (q74, .inl (E.2.2.1 3, 40, .inl (fun _ => 0)))]) rfl ?_
  refine k_put (q0 := 0) (fs := [.ref q7, .int 0, .int 0, .int 30, .int 3, .ref q26, .ref q34, .ref q42, .ref q50, .int 0, .ref q58, .int 0, .int 0, .null, .int 0, .int 0, .int 0, .int 0, .ref q66, .null, .null, .int 0, .int 0, .null, .null, .int 0, .null, .null, .null, .null, .null, .int 0, .int 0, .null, .null, .null, .int 0, .int 0, .null, .null, .null]) hC hI kf12_40 dX12_init_76 rfl rfl rfl (Nat.le_of_ble_eq_true rfl) ?_
  refine k_ws (ws2 := (q, .inr (12, [.ref q7, .int 0, .int 0, .int 30, .int 3, .ref q26, .ref q34, .ref q42, .ref q50, .int 0, .ref q58, .int 0, .int 0, .null, .int 0, .int 0, .int 0, .int 0, .ref q66, .ref q74, .null, .int 0, .int 0, .null, .null, .int 0, .null, .null, .null, .null, .null, .int 0, .int 0, .null, .null, .null, .int 0, .int 0, .null, .null, .null])) :: [(q7, .inl (E.2.2.1 0, 26, .inl (fun _ => 0))), (q26, .inl (E.2.2.1 0, 8, .inl (fun _ => 0))), (q34, .inl (E.2.2.1 0, 8, .inl (fun _ => 0))), (q42, .inl (E.2.2.1 0, 6, .inl (fun _ => 0))), (q50, .inl (E.2.2.1 3, 80, .inl (fun _ => 0))), (q58, .inl (E.2.2.1 1, 16, .inr (.inl (fun _ => 0)))), (q66, .inl (E.2.2.1 0, 16, .inl (fun _ => 0))), (q74, .inl (E.2.2.1 3, 40, .inl (fun _ => 0)))]) rfl ?_
  refine k_aload (i := 0) (x := q) hC dX12_init_79 rfl rfl ?_
  refine k_bipush (v := 40) hC dX12_init_80 (by decide +kernel) ?_
  refine k_newa (t := 3) (N' := 40) (a0 := (40, .inl (fun _ => 0))) (ty := .byte) hC kt_534 rfl rfl (fun _ => rfl) (by decide) (by decide +kernel) (by decide) (by decide) (by decide) dX12_init_82 (fun q82 => ?_)
  refine k_ws (ws2 := (q, .inr (12, [.ref q7, .int 0, .int 0, .int 30, .int 3, .ref q26, .ref q34, .ref q42, .ref q50, .int 0, .ref q58, .int 0, .int 0, .null, .int 0, .int 0, .int 0, .int 0, .ref q66, .ref q74, .null, .int 0, .int 0, .null, .null, .int 0, .null, .null, .null, .null, .null, .int 0, .int 0, .null, .null, .null, .int 0, .int 0, .null, .null, .null])) :: [(q7, .inl (E.2.2.1 0, 26, .inl (fun _ => 0))), (q26, .inl (E.2.2.1 0, 8, .inl (fun _ => 0))), (q34, .inl (E.2.2.1 0, 8, .inl (fun _ => 0))), (q42, .inl (E.2.2.1 0, 6, .inl (fun _ => 0))), (q50, .inl (E.2.2.1 3, 80, .inl (fun _ => 0))), (q58, .inl (E.2.2.1 1, 16, .inr (.inl (fun _ => 0)))), (q66, .inl (E.2.2.1 0, 16, .inl (fun _ => 0))), (q74, .inl (E.2.2.1 3, 40, .inl (fun _ => 0))), (q82, .inl (E.2.2.1 3, 40, .inl (fun _ => 0)))]) rfl ?_
  refine k_put (q0 := 0) (fs := [.ref q7, .int 0, .int 0, .int 30, .int 3, .ref q26, .ref q34, .ref q42, .ref q50, .int 0, .ref q58, .int 0, .int 0, .null, .int 0, .int 0, .int 0, .int 0, .ref q66, .ref q74, .null, .int 0, .int 0, .null, .null, .int 0, .null, .null, .null, .null, .null, .int 0, .int 0, .null, .null, .null, .int 0, .int 0, .null, .null, .null]) hC hI kf12_43 dX12_init_84 rfl rfl rfl (Nat.le_of_ble_eq_true rfl) ?_
  refine k_ws (ws2 := (q, .inr (12, [.ref q7, .int 0, .int 0, .int 30, .int 3, .ref q26, .ref q34, .ref q42, .ref q50, .int 0, .ref q58, .int 0, .int 0, .null, .int 0, .int 0, .int 0, .int 0, .ref q66, .ref q74, .ref q82, .int 0, .int 0, .null, .null, .int 0, .null, .null, .null, .null, .null, .int 0, .int 0, .null, .null, .null, .int 0, .int 0, .null, .null, .null])) :: [(q7, .inl (E.2.2.1 0, 26, .inl (fun _ => 0))), (q26, .inl (E.2.2.1 0, 8, .inl (fun _ => 0))), (q34, .inl (E.2.2.1 0, 8, .inl (fun _ => 0))), (q42, .inl (E.2.2.1 0, 6, .inl (fun _ => 0))), (q50, .inl (E.2.2.1 3, 80, .inl (fun _ => 0))), (q58, .inl (E.2.2.1 1, 16, .inr (.inl (fun _ => 0)))), (q66, .inl (E.2.2.1 0, 16, .inl (fun _ => 0))), (q74, .inl (E.2.2.1 3, 40, .inl (fun _ => 0))), (q82, .inl (E.2.2.1 3, 40, .inl (fun _ => 0)))]) rfl ?_
  refine k_aload (i := 0) (x := q) hC dX12_init_87 rfl rfl ?_
  refine k_bipush (v := 6) hC dX12_init_88 (by decide +kernel) ?_
  refine k_newa (t := 0) (N' := 6) (a0 := (6, .inl (fun _ => 0))) (ty := .int) hC kt_51 rfl rfl (fun _ => rfl) (by decide) (by decide +kernel) (by decide) (by decide) (by decide) dX12_init_90 (fun q90 => ?_)
  refine k_ws (ws2 := (q, .inr (12, [.ref q7, .int 0, .int 0, .int 30, .int 3, .ref q26, .ref q34, .ref q42, .ref q50, .int 0, .ref q58, .int 0, .int 0, .null, .int 0, .int 0, .int 0, .int 0, .ref q66, .ref q74, .ref q82, .int 0, .int 0, .null, .null, .int 0, .null, .null, .null, .null, .null, .int 0, .int 0, .null, .null, .null, .int 0, .int 0, .null, .null, .null])) :: [(q7, .inl (E.2.2.1 0, 26, .inl (fun _ => 0))), (q26, .inl (E.2.2.1 0, 8, .inl (fun _ => 0))), (q34, .inl (E.2.2.1 0, 8, .inl (fun _ => 0))), (q42, .inl (E.2.2.1 0, 6, .inl (fun _ => 0))), (q50, .inl (E.2.2.1 3, 80, .inl (fun _ => 0))), (q58, .inl (E.2.2.1 1, 16, .inr (.inl (fun _ => 0)))), (q66, .inl (E.2.2.1 0, 16, .inl (fun _ => 0))), (q74, .inl (E.2.2.1 3, 40, .inl (fun _ => 0))), (q82, .inl (E.2.2.1 3, 40, .inl (fun _ => 0))), (q90, .inl (E.2.2.1 0, 6, .inl (fun _ => 0)))]) rfl ?_
  refine k_put (q0 := 0) (fs := [.ref q7, .int 0, .int 0, .int 30, .int 3, .ref q26, .ref q34, .ref q42, .ref q50, .int 0, .ref q58, .int 0, .int 0, .null, .int 0, .int 0, .int 0, .int 0, .ref q66, .ref q74, .ref q82, .int 0, .int 0, .null, .null, .int 0, .null, .null, .null, .null, .null, .int 0, .int 0, .null, .null, .null, .int 0, .int 0, .null, .null, .null]) hC hI kf12_46 dX12_init_92 rfl rfl rfl (Nat.le_of_ble_eq_true rfl) ?_
  refine k_ws (ws2 := (q, .inr (12, [.ref q7, .int 0, .int 0, .int 30, .int 3, .ref q26, .ref q34, .ref q42, .ref q50, .int 0, .ref q58, .int 0, .int 0, .null, .int 0, .int 0, .int 0, .int 0, .ref q66, .ref q74, .ref q82, .int 0, .int 0, .ref q90, .null, .int 0, .null, .null, .null, .null, .null, .int 0, .int 0, .null, .null, .null, .int 0, .int 0, .null, .null, .null])) :: [(q7, .inl (E.2.2.1 0, 26, .inl (fun _ => 0))), (q26, .inl (E.2.2.1 0, 8, .inl (fun _ => 0))), (q34, .inl (E.2.2.1 0, 8, .inl (fun _ => 0))), (q42, .inl (E.2.2.1 0, 6, .inl (fun _ => 0))), (q50, .inl (E.2.2.1 3, 80, .inl (fun _ => 0))), (q58, .inl (E.2.2.1 1, 16, .inr (.inl (fun _ => 0)))), (q66, .inl (E.2.2.1 0, 16, .inl (fun _ => 0))), (q74, .inl (E.2.2.1 3, 40, .inl (fun _ => 0))), (q82, .inl (E.2.2.1 3, 40, .inl (fun _ => 0))), (q90, .inl (E.2.2.1 0, 6, .inl (fun _ => 0)))]) rfl ?_
  refine k_aload (i := 0) (x := q) hC dX12_init_95 rfl rfl ?_
  refine k_sipush (v := 312) hC dX12_init_96 (by decide +kernel) ?_
  refine k_newa (t := 0) (N' := 312) (a0 := (312, .inl (fun _ => 0))) (ty := .int) hC kt_51 rfl rfl (fun _ => rfl) (by decide) (by decide +kernel) (by decide) (by decide) (by decide) dX12_init_99 (fun q99 => ?_)
  refine k_ws (ws2 := (q, .inr (12, [.ref q7, .int 0, .int 0, .int 30, .int 3, .ref q26, .ref q34, .ref q42, .ref q50, .int 0, .ref q58, .int 0, .int 0, .null, .int 0, .int 0, .int 0, .int 0, .ref q66, .ref q74, .ref q82, .int 0, .int 0, .ref q90, .null, .int 0, .null, .null, .null, .null, .null, .int 0, .int 0, .null, .null, .null, .int 0, .int 0, .null, .null, .null])) :: [(q7, .inl (E.2.2.1 0, 26, .inl (fun _ => 0))), (q26, .inl (E.2.2.1 0, 8, .inl (fun _ => 0))), (q34, .inl (E.2.2.1 0, 8, .inl (fun _ => 0))), (q42, .inl (E.2.2.1 0, 6, .inl (fun _ => 0))), (q50, .inl (E.2.2.1 3, 80, .inl (fun _ => 0))), (q58, .inl (E.2.2.1 1, 16, .inr (.inl (fun _ => 0)))), (q66, .inl (E.2.2.1 0, 16, .inl (fun _ => 0))), (q74, .inl (E.2.2.1 3, 40, .inl (fun _ => 0))), (q82, .inl (E.2.2.1 3, 40, .inl (fun _ => 0))), (q90, .inl (E.2.2.1 0, 6, .inl (fun _ => 0))), (q99, .inl (E.2.2.1 0, 312, .inl (fun _ => 0)))]) rfl ?_
  refine k_put (q0 := 0) (fs := [.ref q7, .int 0, .int 0, .int 30, .int 3, .ref q26, .ref q34, .ref q42, .ref q50, .int 0, .ref q58, .int 0, .int 0, .null, .int 0, .int 0, .int 0, .int 0, .ref q66, .ref q74, .ref q82, .int 0, .int 0, .ref q90, .null, .int 0, .null, .null, .null, .null, .null, .int 0, .int 0, .null, .null, .null, .int 0, .int 0, .null, .null, .null]) hC hI kf12_49 dX12_init_101 rfl rfl rfl (Nat.le_of_ble_eq_true rfl) ?_
  refine k_ws (ws2 := (q, .inr (12, [.ref q7, .int 0, .int 0, .int 30, .int 3, .ref q26, .ref q34, .ref q42, .ref q50, .int 0, .ref q58, .int 0, .int 0, .null, .int 0, .int 0, .int 0, .int 0, .ref q66, .ref q74, .ref q82, .int 0, .int 0, .ref q90, .ref q99, .int 0, .null, .null, .null, .null, .null, .int 0, .int 0, .null, .null, .null, .int 0, .int 0, .null, .null, .null])) :: [(q7, .inl (E.2.2.1 0, 26, .inl (fun _ => 0))), (q26, .inl (E.2.2.1 0, 8, .inl (fun _ => 0))), (q34, .inl (E.2.2.1 0, 8, .inl (fun _ => 0))), (q42, .inl (E.2.2.1 0, 6, .inl (fun _ => 0))), (q50, .inl (E.2.2.1 3, 80, .inl (fun _ => 0))), (q58, .inl (E.2.2.1 1, 16, .inr (.inl (fun _ => 0)))), (q66, .inl (E.2.2.1 0, 16, .inl (fun _ => 0))), (q74, .inl (E.2.2.1 3, 40, .inl (fun _ => 0))), (q82, .inl (E.2.2.1 3, 40, .inl (fun _ => 0))), (q90, .inl (E.2.2.1 0, 6, .inl (fun _ => 0))), (q99, .inl (E.2.2.1 0, 312, .inl (fun _ => 0)))]) rfl ?_
  refine k_aload (i := 0) (x := q) hC dX12_init_104 rfl rfl ?_
  refine k_bipush (v := 26) hC dX12_init_105 (by decide +kernel) ?_
  refine k_newa (t := 0) (N' := 26) (a0 := (26, .inl (fun _ => 0))) (ty := .int) hC kt_51 rfl rfl (fun _ => rfl) (by decide) (by decide +kernel) (by decide) (by decide) (by decide) dX12_init_107 (fun q107 => ?_)
  refine k_ws (ws2 := (q, .inr (12, [.ref q7, .int 0, .int 0, .int 30, .int 3, .ref q26, .ref q34, .ref q42, .ref q50, .int 0, .ref q58, .int 0, .int 0, .null, .int 0, .int 0, .int 0, .int 0, .ref q66, .ref q74, .ref q82, .int 0, .int 0, .ref q90, .ref q99, .int 0, .null, .null, .null, .null, .null, .int 0, .int 0, .null, .null, .null, .int 0, .int 0, .null, .null, .null])) :: [(q7, .inl (E.2.2.1 0, 26, .inl (fun _ => 0))), (q26, .inl (E.2.2.1 0, 8, .inl (fun _ => 0))), (q34, .inl (E.2.2.1 0, 8, .inl (fun _ => 0))), (q42, .inl (E.2.2.1 0, 6, .inl (fun _ => 0))), (q50, .inl (E.2.2.1 3, 80, .inl (fun _ => 0))), (q58, .inl (E.2.2.1 1, 16, .inr (.inl (fun _ => 0)))), (q66, .inl (E.2.2.1 0, 16, .inl (fun _ => 0))), (q74, .inl (E.2.2.1 3, 40, .inl (fun _ => 0))), (q82, .inl (E.2.2.1 3, 40, .inl (fun _ => 0))), (q90, .inl (E.2.2.1 0, 6, .inl (fun _ => 0))), (q99, .inl (E.2.2.1 0, 312, .inl (fun _ => 0))), (q107, .inl (E.2.2.1 0, 26, .inl (fun _ => 0)))]) rfl ?_
  refine k_put (q0 := 0) (fs := [.ref q7, .int 0, .int 0, .int 30, .int 3, .ref q26, .ref q34, .ref q42, .ref q50, .int 0, .ref q58, .int 0, .int 0, .null, .int 0, .int 0, .int 0, .int 0, .ref q66, .ref q74, .ref q82, .int 0, .int 0, .ref q90, .ref q99, .int 0, .null, .null, .null, .null, .null, .int 0, .int 0, .null, .null, .null, .int 0, .int 0, .null, .null, .null]) hC hI kf12_52 dX12_init_109 rfl rfl rfl (Nat.le_of_ble_eq_true rfl) ?_
  refine k_ws (ws2 := (q, .inr (12, [.ref q7, .int 0, .int 0, .int 30, .int 3, .ref q26, .ref q34, .ref q42, .ref q50, .int 0, .ref q58, .int 0, .int 0, .null, .int 0, .int 0, .int 0, .int 0, .ref q66, .ref q74, .ref q82, .int 0, .int 0, .ref q90, .ref q99, .int 0, .ref q107, .null, .null, .null, .null, .int 0, .int 0, .null, .null, .null, .int 0, .int 0, .null, .null, .null])) :: [(q7, .inl (E.2.2.1 0, 26, .inl (fun _ => 0))), (q26, .inl (E.2.2.1 0, 8, .inl (fun _ => 0))), (q34, .inl (E.2.2.1 0, 8, .inl (fun _ => 0))), (q42, .inl (E.2.2.1 0, 6, .inl (fun _ => 0))), (q50, .inl (E.2.2.1 3, 80, .inl (fun _ => 0))), (q58, .inl (E.2.2.1 1, 16, .inr (.inl (fun _ => 0)))), (q66, .inl (E.2.2.1 0, 16, .inl (fun _ => 0))), (q74, .inl (E.2.2.1 3, 40, .inl (fun _ => 0))), (q82, .inl (E.2.2.1 3, 40, .inl (fun _ => 0))), (q90, .inl (E.2.2.1 0, 6, .inl (fun _ => 0))), (q99, .inl (E.2.2.1 0, 312, .inl (fun _ => 0))), (q107, .inl (E.2.2.1 0, 26, .inl (fun _ => 0)))]) rfl ?_
  refine k_aload (i := 0) (x := q) hC dX12_init_112 rfl rfl ?_
  refine k_bipush (v := 26) hC dX12_init_113 (by decide +kernel) ?_
  refine k_newa (t := 0) (N' := 26) (a0 := (26, .inl (fun _ => 0))) (ty := .int) hC kt_51 rfl rfl (fun _ => rfl) (by decide) (by decide +kernel) (by decide) (by decide) (by decide) dX12_init_115 (fun q115 => ?_)
  refine k_ws (ws2 := (q, .inr (12, [.ref q7, .int 0, .int 0, .int 30, .int 3, .ref q26, .ref q34, .ref q42, .ref q50, .int 0, .ref q58, .int 0, .int 0, .null, .int 0, .int 0, .int 0, .int 0, .ref q66, .ref q74, .ref q82, .int 0, .int 0, .ref q90, .ref q99, .int 0, .ref q107, .null, .null, .null, .null, .int 0, .int 0, .null, .null, .null, .int 0, .int 0, .null, .null, .null])) :: [(q7, .inl (E.2.2.1 0, 26, .inl (fun _ => 0))), (q26, .inl (E.2.2.1 0, 8, .inl (fun _ => 0))), (q34, .inl (E.2.2.1 0, 8, .inl (fun _ => 0))), (q42, .inl (E.2.2.1 0, 6, .inl (fun _ => 0))), (q50, .inl (E.2.2.1 3, 80, .inl (fun _ => 0))), (q58, .inl (E.2.2.1 1, 16, .inr (.inl (fun _ => 0)))), (q66, .inl (E.2.2.1 0, 16, .inl (fun _ => 0))), (q74, .inl (E.2.2.1 3, 40, .inl (fun _ => 0))), (q82, .inl (E.2.2.1 3, 40, .inl (fun _ => 0))), (q90, .inl (E.2.2.1 0, 6, .inl (fun _ => 0))), (q99, .inl (E.2.2.1 0, 312, .inl (fun _ => 0))), (q107, .inl (E.2.2.1 0, 26, .inl (fun _ => 0))), (q115, .inl (E.2.2.1 0, 26, .inl (fun _ => 0)))]) rfl ?_
  refine k_put (q0 := 0) (fs := [.ref q7, .int 0, .int 0, .int 30, .int 3, .ref q26, .ref q34, .ref q42, .ref q50, .int 0, .ref q58, .int 0, .int 0, .null, .int 0, .int 0, .int 0, .int 0, .ref q66, .ref q74, .ref q82, .int 0, .int 0, .ref q90, .ref q99, .int 0, .ref q107, .null, .null, .null, .null, .int 0, .int 0, .null, .null, .null, .int 0, .int 0, .null, .null, .null]) hC hI kf12_55 dX12_init_117 rfl rfl rfl (Nat.le_of_ble_eq_true rfl) ?_
  refine k_ws (ws2 := (q, .inr (12, [.ref q7, .int 0, .int 0, .int 30, .int 3, .ref q26, .ref q34, .ref q42, .ref q50, .int 0, .ref q58, .int 0, .int 0, .null, .int 0, .int 0, .int 0, .int 0, .ref q66, .ref q74, .ref q82, .int 0, .int 0, .ref q90, .ref q99, .int 0, .ref q107, .ref q115, .null, .null, .null, .int 0, .int 0, .null, .null, .null, .int 0, .int 0, .null, .null, .null])) :: [(q7, .inl (E.2.2.1 0, 26, .inl (fun _ => 0))), (q26, .inl (E.2.2.1 0, 8, .inl (fun _ => 0))), (q34, .inl (E.2.2.1 0, 8, .inl (fun _ => 0))), (q42, .inl (E.2.2.1 0, 6, .inl (fun _ => 0))), (q50, .inl (E.2.2.1 3, 80, .inl (fun _ => 0))), (q58, .inl (E.2.2.1 1, 16, .inr (.inl (fun _ => 0)))), (q66, .inl (E.2.2.1 0, 16, .inl (fun _ => 0))), (q74, .inl (E.2.2.1 3, 40, .inl (fun _ => 0))), (q82, .inl (E.2.2.1 3, 40, .inl (fun _ => 0))), (q90, .inl (E.2.2.1 0, 6, .inl (fun _ => 0))), (q99, .inl (E.2.2.1 0, 312, .inl (fun _ => 0))), (q107, .inl (E.2.2.1 0, 26, .inl (fun _ => 0))), (q115, .inl (E.2.2.1 0, 26, .inl (fun _ => 0)))]) rfl ?_
  refine k_aload (i := 0) (x := q) hC dX12_init_120 rfl rfl ?_
  refine k_sipush (v := 240) hC dX12_init_121 (by decide +kernel) ?_
  refine k_newa (t := 0) (N' := 240) (a0 := (240, .inl (fun _ => 0))) (ty := .int) hC kt_51 rfl rfl (fun _ => rfl) (by decide) (by decide +kernel) (by decide) (by decide) (by decide) dX12_init_124 (fun q124 => ?_)
  refine k_ws (ws2 := (q, .inr (12, [.ref q7, .int 0, .int 0, .int 30, .int 3, .ref q26, .ref q34, .ref q42, .ref q50, .int 0, .ref q58, .int 0, .int 0, .null, .int 0, .int 0, .int 0, .int 0, .ref q66, .ref q74, .ref q82, .int 0, .int 0, .ref q90, .ref q99, .int 0, .ref q107, .ref q115, .null, .null, .null, .int 0, .int 0, .null, .null, .null, .int 0, .int 0, .null, .null, .null])) :: [(q7, .inl (E.2.2.1 0, 26, .inl (fun _ => 0))), (q26, .inl (E.2.2.1 0, 8, .inl (fun _ => 0))), (q34, .inl (E.2.2.1 0, 8, .inl (fun _ => 0))), (q42, .inl (E.2.2.1 0, 6, .inl (fun _ => 0))), (q50, .inl (E.2.2.1 3, 80, .inl (fun _ => 0))), (q58, .inl (E.2.2.1 1, 16, .inr (.inl (fun _ => 0)))), (q66, .inl (E.2.2.1 0, 16, .inl (fun _ => 0))), (q74, .inl (E.2.2.1 3, 40, .inl (fun _ => 0))), (q82, .inl (E.2.2.1 3, 40, .inl (fun _ => 0))), (q90, .inl (E.2.2.1 0, 6, .inl (fun _ => 0))), (q99, .inl (E.2.2.1 0, 312, .inl (fun _ => 0))), (q107, .inl (E.2.2.1 0, 26, .inl (fun _ => 0))), (q115, .inl (E.2.2.1 0, 26, .inl (fun _ => 0))), (q124, .inl (E.2.2.1 0, 240, .inl (fun _ => 0)))]) rfl ?_
  refine k_put (q0 := 0) (fs := [.ref q7, .int 0, .int 0, .int 30, .int 3, .ref q26, .ref q34, .ref q42, .ref q50, .int 0, .ref q58, .int 0, .int 0, .null, .int 0, .int 0, .int 0, .int 0, .ref q66, .ref q74, .ref q82, .int 0, .int 0, .ref q90, .ref q99, .int 0, .ref q107, .ref q115, .null, .null, .null, .int 0, .int 0, .null, .null, .null, .int 0, .int 0, .null, .null, .null]) hC hI kf12_58 dX12_init_126 rfl rfl rfl (Nat.le_of_ble_eq_true rfl) ?_
  refine k_ws (ws2 := (q, .inr (12, [.ref q7, .int 0, .int 0, .int 30, .int 3, .ref q26, .ref q34, .ref q42, .ref q50, .int 0, .ref q58, .int 0, .int 0, .null, .int 0, .int 0, .int 0, .int 0, .ref q66, .ref q74, .ref q82, .int 0, .int 0, .ref q90, .ref q99, .int 0, .ref q107, .ref q115, .ref q124, .null, .null, .int 0, .int 0, .null, .null, .null, .int 0, .int 0, .null, .null, .null])) :: [(q7, .inl (E.2.2.1 0, 26, .inl (fun _ => 0))), (q26, .inl (E.2.2.1 0, 8, .inl (fun _ => 0))), (q34, .inl (E.2.2.1 0, 8, .inl (fun _ => 0))), (q42, .inl (E.2.2.1 0, 6, .inl (fun _ => 0))), (q50, .inl (E.2.2.1 3, 80, .inl (fun _ => 0))), (q58, .inl (E.2.2.1 1, 16, .inr (.inl (fun _ => 0)))), (q66, .inl (E.2.2.1 0, 16, .inl (fun _ => 0))), (q74, .inl (E.2.2.1 3, 40, .inl (fun _ => 0))), (q82, .inl (E.2.2.1 3, 40, .inl (fun _ => 0))), (q90, .inl (E.2.2.1 0, 6, .inl (fun _ => 0))), (q99, .inl (E.2.2.1 0, 312, .inl (fun _ => 0))), (q107, .inl (E.2.2.1 0, 26, .inl (fun _ => 0))), (q115, .inl (E.2.2.1 0, 26, .inl (fun _ => 0))), (q124, .inl (E.2.2.1 0, 240, .inl (fun _ => 0)))]) rfl ?_
  refine k_aload (i := 0) (x := q) hC dX12_init_129 rfl rfl ?_
  refine k_sipush (v := 1792) hC dX12_init_130 (by decide +kernel) ?_
  refine k_newa (t := 0) (N' := 1792) (a0 := (1792, .inl (fun _ => 0))) (ty := .int) hC kt_51 rfl rfl (fun _ => rfl) (by decide) (by decide +kernel) (by decide) (by decide) (by decide) dX12_init_133 (fun q133 => ?_)
  refine k_ws (ws2 := (q, .inr (12, [.ref q7, .int 0, .int 0, .int 30, .int 3, .ref q26, .ref q34, .ref q42, .ref q50, .int 0, .ref q58, .int 0, .int 0, .null, .int 0, .int 0, .int 0, .int 0, .ref q66, .ref q74, .ref q82, .int 0, .int 0, .ref q90, .ref q99, .int 0, .ref q107, .ref q115, .ref q124, .null, .null, .int 0, .int 0, .null, .null, .null, .int 0, .int 0, .null, .null, .null])) :: [(q7, .inl (E.2.2.1 0, 26, .inl (fun _ => 0))), (q26, .inl (E.2.2.1 0, 8, .inl (fun _ => 0))), (q34, .inl (E.2.2.1 0, 8, .inl (fun _ => 0))), (q42, .inl (E.2.2.1 0, 6, .inl (fun _ => 0))), (q50, .inl (E.2.2.1 3, 80, .inl (fun _ => 0))), (q58, .inl (E.2.2.1 1, 16, .inr (.inl (fun _ => 0)))), (q66, .inl (E.2.2.1 0, 16, .inl (fun _ => 0))), (q74, .inl (E.2.2.1 3, 40, .inl (fun _ => 0))), (q82, .inl (E.2.2.1 3, 40, .inl (fun _ => 0))), (q90, .inl (E.2.2.1 0, 6, .inl (fun _ => 0))), (q99, .inl (E.2.2.1 0, 312, .inl (fun _ => 0))), (q107, .inl (E.2.2.1 0, 26, .inl (fun _ => 0))), (q115, .inl (E.2.2.1 0, 26, .inl (fun _ => 0))), (q124, .inl (E.2.2.1 0, 240, .inl (fun _ => 0))), (q133, .inl (E.2.2.1 0, 1792, .inl (fun _ => 0)))]) rfl ?_
  refine k_put (q0 := 0) (fs := [.ref q7, .int 0, .int 0, .int 30, .int 3, .ref q26, .ref q34, .ref q42, .ref q50, .int 0, .ref q58, .int 0, .int 0, .null, .int 0, .int 0, .int 0, .int 0, .ref q66, .ref q74, .ref q82, .int 0, .int 0, .ref q90, .ref q99, .int 0, .ref q107, .ref q115, .ref q124, .null, .null, .int 0, .int 0, .null, .null, .null, .int 0, .int 0, .null, .null, .null]) hC hI kf12_61 dX12_init_135 rfl rfl rfl (Nat.le_of_ble_eq_true rfl) ?_
  refine k_ws (ws2 := (q, .inr (12, [.ref q7, .int 0, .int 0, .int 30, .int 3, .ref q26, .ref q34, .ref q42, .ref q50, .int 0, .ref q58, .int 0, .int 0, .null, .int 0, .int 0, .int 0, .int 0, .ref q66, .ref q74, .ref q82, .int 0, .int 0, .ref q90, .ref q99, .int 0, .ref q107, .ref q115, .ref q124, .ref q133, .null, .int 0, .int 0, .null, .null, .null, .int 0, .int 0, .null, .null, .null])) :: [(q7, .inl (E.2.2.1 0, 26, .inl (fun _ => 0))), (q26, .inl (E.2.2.1 0, 8, .inl (fun _ => 0))), (q34, .inl (E.2.2.1 0, 8, .inl (fun _ => 0))), (q42, .inl (E.2.2.1 0, 6, .inl (fun _ => 0))), (q50, .inl (E.2.2.1 3, 80, .inl (fun _ => 0))), (q58, .inl (E.2.2.1 1, 16, .inr (.inl (fun _ => 0)))), (q66, .inl (E.2.2.1 0, 16, .inl (fun _ => 0))), (q74, .inl (E.2.2.1 3, 40, .inl (fun _ => 0))), (q82, .inl (E.2.2.1 3, 40, .inl (fun _ => 0))), (q90, .inl (E.2.2.1 0, 6, .inl (fun _ => 0))), (q99, .inl (E.2.2.1 0, 312, .inl (fun _ => 0))), (q107, .inl (E.2.2.1 0, 26, .inl (fun _ => 0))), (q115, .inl (E.2.2.1 0, 26, .inl (fun _ => 0))), (q124, .inl (E.2.2.1 0, 240, .inl (fun _ => 0))), (q133, .inl (E.2.2.1 0, 1792, .inl (fun _ => 0)))]) rfl ?_
  refine k_aload (i := 0) (x := q) hC dX12_init_138 rfl rfl ?_
  refine k_bipush (v := 12) hC dX12_init_139 (by decide +kernel) ?_
  refine k_newa (t := 0) (N' := 12) (a0 := (12, .inl (fun _ => 0))) (ty := .int) hC kt_51 rfl rfl (fun _ => rfl) (by decide) (by decide +kernel) (by decide) (by decide) (by decide) dX12_init_141 (fun q141 => ?_)
  refine k_ws (ws2 := (q, .inr (12, [.ref q7, .int 0, .int 0, .int 30, .int 3, .ref q26, .ref q34, .ref q42, .ref q50, .int 0, .ref q58, .int 0, .int 0, .null, .int 0, .int 0, .int 0, .int 0, .ref q66, .ref q74, .ref q82, .int 0, .int 0, .ref q90, .ref q99, .int 0, .ref q107, .ref q115, .ref q124, .ref q133, .null, .int 0, .int 0, .null, .null, .null, .int 0, .int 0, .null, .null, .null])) :: [(q7, .inl (E.2.2.1 0, 26, .inl (fun _ => 0))), (q26, .inl (E.2.2.1 0, 8, .inl (fun _ => 0))), (q34, .inl (E.2.2.1 0, 8, .inl (fun _ => 0))), (q42, .inl (E.2.2.1 0, 6, .inl (fun _ => 0))), (q50, .inl (E.2.2.1 3, 80, .inl (fun _ => 0))), (q58, .inl (E.2.2.1 1, 16, .inr (.inl (fun _ => 0)))), (q66, .inl (E.2.2.1 0, 16, .inl (fun _ => 0))), (q74, .inl (E.2.2.1 3, 40, .inl (fun _ => 0))), (q82, .inl (E.2.2.1 3, 40, .inl (fun _ => 0))), (q90, .inl (E.2.2.1 0, 6, .inl (fun _ => 0))), (q99, .inl (E.2.2.1 0, 312, .inl (fun _ => 0))), (q107, .inl (E.2.2.1 0, 26, .inl (fun _ => 0))), (q115, .inl (E.2.2.1 0, 26, .inl (fun _ => 0))), (q124, .inl (E.2.2.1 0, 240, .inl (fun _ => 0))), (q133, .inl (E.2.2.1 0, 1792, .inl (fun _ => 0))), (q141, .inl (E.2.2.1 0, 12, .inl (fun _ => 0)))]) rfl ?_
  refine k_put (q0 := 0) (fs := [.ref q7, .int 0, .int 0, .int 30, .int 3, .ref q26, .ref q34, .ref q42, .ref q50, .int 0, .ref q58, .int 0, .int 0, .null, .int 0, .int 0, .int 0, .int 0, .ref q66, .ref q74, .ref q82, .int 0, .int 0, .ref q90, .ref q99, .int 0, .ref q107, .ref q115, .ref q124, .ref q133, .null, .int 0, .int 0, .null, .null, .null, .int 0, .int 0, .null, .null, .null]) hC hI kf12_64 dX12_init_143 rfl rfl rfl (Nat.le_of_ble_eq_true rfl) ?_
  refine k_ws (ws2 := (q, .inr (12, [.ref q7, .int 0, .int 0, .int 30, .int 3, .ref q26, .ref q34, .ref q42, .ref q50, .int 0, .ref q58, .int 0, .int 0, .null, .int 0, .int 0, .int 0, .int 0, .ref q66, .ref q74, .ref q82, .int 0, .int 0, .ref q90, .ref q99, .int 0, .ref q107, .ref q115, .ref q124, .ref q133, .ref q141, .int 0, .int 0, .null, .null, .null, .int 0, .int 0, .null, .null, .null])) :: [(q7, .inl (E.2.2.1 0, 26, .inl (fun _ => 0))), (q26, .inl (E.2.2.1 0, 8, .inl (fun _ => 0))), (q34, .inl (E.2.2.1 0, 8, .inl (fun _ => 0))), (q42, .inl (E.2.2.1 0, 6, .inl (fun _ => 0))), (q50, .inl (E.2.2.1 3, 80, .inl (fun _ => 0))), (q58, .inl (E.2.2.1 1, 16, .inr (.inl (fun _ => 0)))), (q66, .inl (E.2.2.1 0, 16, .inl (fun _ => 0))), (q74, .inl (E.2.2.1 3, 40, .inl (fun _ => 0))), (q82, .inl (E.2.2.1 3, 40, .inl (fun _ => 0))), (q90, .inl (E.2.2.1 0, 6, .inl (fun _ => 0))), (q99, .inl (E.2.2.1 0, 312, .inl (fun _ => 0))), (q107, .inl (E.2.2.1 0, 26, .inl (fun _ => 0))), (q115, .inl (E.2.2.1 0, 26, .inl (fun _ => 0))), (q124, .inl (E.2.2.1 0, 240, .inl (fun _ => 0))), (q133, .inl (E.2.2.1 0, 1792, .inl (fun _ => 0))), (q141, .inl (E.2.2.1 0, 12, .inl (fun _ => 0)))]) rfl ?_
  refine k_aload (i := 0) (x := q) hC dX12_init_146 rfl rfl ?_
  refine k_bipush (v := 6) hC dX12_init_147 (by decide +kernel) ?_
  refine k_newa (t := 1) (N' := 6) (a0 := (6, .inr (.inl (fun _ => 0)))) (ty := .long) hC kt_67 rfl rfl (fun _ => rfl) (by decide) (by decide +kernel) (by decide) (by decide) (by decide) dX12_init_149 (fun q149 => ?_)
  refine k_ws (ws2 := (q, .inr (12, [.ref q7, .int 0, .int 0, .int 30, .int 3, .ref q26, .ref q34, .ref q42, .ref q50, .int 0, .ref q58, .int 0, .int 0, .null, .int 0, .int 0, .int 0, .int 0, .ref q66, .ref q74, .ref q82, .int 0, .int 0, .ref q90, .ref q99, .int 0, .ref q107, .ref q115, .ref q124, .ref q133, .ref q141, .int 0, .int 0, .null, .null, .null, .int 0, .int 0, .null, .null, .null])) :: [(q7, .inl (E.2.2.1 0, 26, .inl (fun _ => 0))), (q26, .inl (E.2.2.1 0, 8, .inl (fun _ => 0))), (q34, .inl (E.2.2.1 0, 8, .inl (fun _ => 0))), (q42, .inl (E.2.2.1 0, 6, .inl (fun _ => 0))), (q50, .inl (E.2.2.1 3, 80, .inl (fun _ => 0))), (q58, .inl (E.2.2.1 1, 16, .inr (.inl (fun _ => 0)))), (q66, .inl (E.2.2.1 0, 16, .inl (fun _ => 0))), (q74, .inl (E.2.2.1 3, 40, .inl (fun _ => 0))), (q82, .inl (E.2.2.1 3, 40, .inl (fun _ => 0))), (q90, .inl (E.2.2.1 0, 6, .inl (fun _ => 0))), (q99, .inl (E.2.2.1 0, 312, .inl (fun _ => 0))), (q107, .inl (E.2.2.1 0, 26, .inl (fun _ => 0))), (q115, .inl (E.2.2.1 0, 26, .inl (fun _ => 0))), (q124, .inl (E.2.2.1 0, 240, .inl (fun _ => 0))), (q133, .inl (E.2.2.1 0, 1792, .inl (fun _ => 0))), (q141, .inl (E.2.2.1 0, 12, .inl (fun _ => 0))), (q149, .inl (E.2.2.1 1, 6, .inr (.inl (fun _ => 0))))]) rfl ?_
  refine k_put (q0 := 0) (fs := [.ref q7, .int 0, .int 0, .int 30, .int 3, .ref q26, .ref q34, .ref q42, .ref q50, .int 0, .ref q58, .int 0, .int 0, .null, .int 0, .int 0, .int 0, .int 0, .ref q66, .ref q74, .ref q82, .int 0, .int 0, .ref q90, .ref q99, .int 0, .ref q107, .ref q115, .ref q124, .ref q133, .ref q141, .int 0, .int 0, .null, .null, .null, .int 0, .int 0, .null, .null, .null]) hC hI kf12_67 dX12_init_151 rfl rfl rfl (Nat.le_of_ble_eq_true rfl) ?_
  refine k_ws (ws2 := (q, .inr (12, [.ref q7, .int 0, .int 0, .int 30, .int 3, .ref q26, .ref q34, .ref q42, .ref q50, .int 0, .ref q58, .int 0, .int 0, .null, .int 0, .int 0, .int 0, .int 0, .ref q66, .ref q74, .ref q82, .int 0, .int 0, .ref q90, .ref q99, .int 0, .ref q107, .ref q115, .ref q124, .ref q133, .ref q141, .int 0, .int 0, .ref q149, .null, .null, .int 0, .int 0, .null, .null, .null])) :: [(q7, .inl (E.2.2.1 0, 26, .inl (fun _ => 0))), (q26, .inl (E.2.2.1 0, 8, .inl (fun _ => 0))), (q34, .inl (E.2.2.1 0, 8, .inl (fun _ => 0))), (q42, .inl (E.2.2.1 0, 6, .inl (fun _ => 0))), (q50, .inl (E.2.2.1 3, 80, .inl (fun _ => 0))), (q58, .inl (E.2.2.1 1, 16, .inr (.inl (fun _ => 0)))), (q66, .inl (E.2.2.1 0, 16, .inl (fun _ => 0))), (q74, .inl (E.2.2.1 3, 40, .inl (fun _ => 0))), (q82, .inl (E.2.2.1 3, 40, .inl (fun _ => 0))), (q90, .inl (E.2.2.1 0, 6, .inl (fun _ => 0))), (q99, .inl (E.2.2.1 0, 312, .inl (fun _ => 0))), (q107, .inl (E.2.2.1 0, 26, .inl (fun _ => 0))), (q115, .inl (E.2.2.1 0, 26, .inl (fun _ => 0))), (q124, .inl (E.2.2.1 0, 240, .inl (fun _ => 0))), (q133, .inl (E.2.2.1 0, 1792, .inl (fun _ => 0))), (q141, .inl (E.2.2.1 0, 12, .inl (fun _ => 0))), (q149, .inl (E.2.2.1 1, 6, .inr (.inl (fun _ => 0))))]) rfl ?_
  refine k_aload (i := 0) (x := q) hC dX12_init_154 rfl rfl ?_
  refine k_bipush (v := 10) hC dX12_init_155 (by decide +kernel) ?_
  refine k_newa (t := 0) (N' := 10) (a0 := (10, .inl (fun _ => 0))) (ty := .int) hC kt_51 rfl rfl (fun _ => rfl) (by decide) (by decide +kernel) (by decide) (by decide) (by decide) dX12_init_157 (fun q157 => ?_)
  refine k_ws (ws2 := (q, .inr (12, [.ref q7, .int 0, .int 0, .int 30, .int 3, .ref q26, .ref q34, .ref q42, .ref q50, .int 0, .ref q58, .int 0, .int 0, .null, .int 0, .int 0, .int 0, .int 0, .ref q66, .ref q74, .ref q82, .int 0, .int 0, .ref q90, .ref q99, .int 0, .ref q107, .ref q115, .ref q124, .ref q133, .ref q141, .int 0, .int 0, .ref q149, .null, .null, .int 0, .int 0, .null, .null, .null])) :: [(q7, .inl (E.2.2.1 0, 26, .inl (fun _ => 0))), (q26, .inl (E.2.2.1 0, 8, .inl (fun _ => 0))), (q34, .inl (E.2.2.1 0, 8, .inl (fun _ => 0))), (q42, .inl (E.2.2.1 0, 6, .inl (fun _ => 0))), (q50, .inl (E.2.2.1 3, 80, .inl (fun _ => 0))), (q58, .inl (E.2.2.1 1, 16, .inr (.inl (fun _ => 0)))), (q66, .inl (E.2.2.1 0, 16, .inl (fun _ => 0))), (q74, .inl (E.2.2.1 3, 40, .inl (fun _ => 0))), (q82, .inl (E.2.2.1 3, 40, .inl (fun _ => 0))), (q90, .inl (E.2.2.1 0, 6, .inl (fun _ => 0))), (q99, .inl (E.2.2.1 0, 312, .inl (fun _ => 0))), (q107, .inl (E.2.2.1 0, 26, .inl (fun _ => 0))), (q115, .inl (E.2.2.1 0, 26, .inl (fun _ => 0))), (q124, .inl (E.2.2.1 0, 240, .inl (fun _ => 0))), (q133, .inl (E.2.2.1 0, 1792, .inl (fun _ => 0))), (q141, .inl (E.2.2.1 0, 12, .inl (fun _ => 0))), (q149, .inl (E.2.2.1 1, 6, .inr (.inl (fun _ => 0)))), (q157, .inl (E.2.2.1 0, 10, .inl (fun _ => 0)))]) rfl ?_
  refine k_put (q0 := 0) (fs := [.ref q7, .int 0, .int 0, .int 30, .int 3, .ref q26, .ref q34, .ref q42, .ref q50, .int 0, .ref q58, .int 0, .int 0, .null, .int 0, .int 0, .int 0, .int 0, .ref q66, .ref q74, .ref q82, .int 0, .int 0, .ref q90, .ref q99, .int 0, .ref q107, .ref q115, .ref q124, .ref q133, .ref q141, .int 0, .int 0, .ref q149, .null, .null, .int 0, .int 0, .null, .null, .null]) hC hI kf12_70 dX12_init_159 rfl rfl rfl (Nat.le_of_ble_eq_true rfl) ?_
  refine k_ws (ws2 := (q, .inr (12, [.ref q7, .int 0, .int 0, .int 30, .int 3, .ref q26, .ref q34, .ref q42, .ref q50, .int 0, .ref q58, .int 0, .int 0, .null, .int 0, .int 0, .int 0, .int 0, .ref q66, .ref q74, .ref q82, .int 0, .int 0, .ref q90, .ref q99, .int 0, .ref q107, .ref q115, .ref q124, .ref q133, .ref q141, .int 0, .int 0, .ref q149, .ref q157, .null, .int 0, .int 0, .null, .null, .null])) :: [(q7, .inl (E.2.2.1 0, 26, .inl (fun _ => 0))), (q26, .inl (E.2.2.1 0, 8, .inl (fun _ => 0))), (q34, .inl (E.2.2.1 0, 8, .inl (fun _ => 0))), (q42, .inl (E.2.2.1 0, 6, .inl (fun _ => 0))), (q50, .inl (E.2.2.1 3, 80, .inl (fun _ => 0))), (q58, .inl (E.2.2.1 1, 16, .inr (.inl (fun _ => 0)))), (q66, .inl (E.2.2.1 0, 16, .inl (fun _ => 0))), (q74, .inl (E.2.2.1 3, 40, .inl (fun _ => 0))), (q82, .inl (E.2.2.1 3, 40, .inl (fun _ => 0))), (q90, .inl (E.2.2.1 0, 6, .inl (fun _ => 0))), (q99, .inl (E.2.2.1 0, 312, .inl (fun _ => 0))), (q107, .inl (E.2.2.1 0, 26, .inl (fun _ => 0))), (q115, .inl (E.2.2.1 0, 26, .inl (fun _ => 0))), (q124, .inl (E.2.2.1 0, 240, .inl (fun _ => 0))), (q133, .inl (E.2.2.1 0, 1792, .inl (fun _ => 0))), (q141, .inl (E.2.2.1 0, 12, .inl (fun _ => 0))), (q149, .inl (E.2.2.1 1, 6, .inr (.inl (fun _ => 0)))), (q157, .inl (E.2.2.1 0, 10, .inl (fun _ => 0)))]) rfl ?_
  refine k_aload (i := 0) (x := q) hC dX12_init_162 rfl rfl ?_
  refine k_bipush (v := 6) hC dX12_init_163 (by decide +kernel) ?_
  refine k_newa (t := 1) (N' := 6) (a0 := (6, .inr (.inl (fun _ => 0)))) (ty := .long) hC kt_67 rfl rfl (fun _ => rfl) (by decide) (by decide +kernel) (by decide) (by decide) (by decide) dX12_init_165 (fun q165 => ?_)
  refine k_ws (ws2 := (q, .inr (12, [.ref q7, .int 0, .int 0, .int 30, .int 3, .ref q26, .ref q34, .ref q42, .ref q50, .int 0, .ref q58, .int 0, .int 0, .null, .int 0, .int 0, .int 0, .int 0, .ref q66, .ref q74, .ref q82, .int 0, .int 0, .ref q90, .ref q99, .int 0, .ref q107, .ref q115, .ref q124, .ref q133, .ref q141, .int 0, .int 0, .ref q149, .ref q157, .null, .int 0, .int 0, .null, .null, .null])) :: [(q7, .inl (E.2.2.1 0, 26, .inl (fun _ => 0))), (q26, .inl (E.2.2.1 0, 8, .inl (fun _ => 0))), (q34, .inl (E.2.2.1 0, 8, .inl (fun _ => 0))), (q42, .inl (E.2.2.1 0, 6, .inl (fun _ => 0))), (q50, .inl (E.2.2.1 3, 80, .inl (fun _ => 0))), (q58, .inl (E.2.2.1 1, 16, .inr (.inl (fun _ => 0)))), (q66, .inl (E.2.2.1 0, 16, .inl (fun _ => 0))), (q74, .inl (E.2.2.1 3, 40, .inl (fun _ => 0))), (q82, .inl (E.2.2.1 3, 40, .inl (fun _ => 0))), (q90, .inl (E.2.2.1 0, 6, .inl (fun _ => 0))), (q99, .inl (E.2.2.1 0, 312, .inl (fun _ => 0))), (q107, .inl (E.2.2.1 0, 26, .inl (fun _ => 0))), (q115, .inl (E.2.2.1 0, 26, .inl (fun _ => 0))), (q124, .inl (E.2.2.1 0, 240, .inl (fun _ => 0))), (q133, .inl (E.2.2.1 0, 1792, .inl (fun _ => 0))), (q141, .inl (E.2.2.1 0, 12, .inl (fun _ => 0))), (q149, .inl (E.2.2.1 1, 6, .inr (.inl (fun _ => 0)))), (q157, .inl (E.2.2.1 0, 10, .inl (fun _ => 0))), (q165, .inl (E.2.2.1 1, 6, .inr (.inl (fun _ => 0))))]) rfl ?_
  refine k_put (q0 := 0) (fs := [.ref q7, .int 0, .int 0, .int 30, .int 3, .ref q26, .ref q34, .ref q42, .ref q50, .int 0, .ref q58, .int 0, .int 0, .null, .int 0, .int 0, .int 0, .int 0, .ref q66, .ref q74, .ref q82, .int 0, .int 0, .ref q90, .ref q99, .int 0, .ref q107, .ref q115, .ref q124, .ref q133, .ref q141, .int 0, .int 0, .ref q149, .ref q157, .null, .int 0, .int 0, .null, .null, .null]) hC hI kf12_73 dX12_init_167 rfl rfl rfl (Nat.le_of_ble_eq_true rfl) ?_
  refine k_ws (ws2 := (q, .inr (12, [.ref q7, .int 0, .int 0, .int 30, .int 3, .ref q26, .ref q34, .ref q42, .ref q50, .int 0, .ref q58, .int 0, .int 0, .null, .int 0, .int 0, .int 0, .int 0, .ref q66, .ref q74, .ref q82, .int 0, .int 0, .ref q90, .ref q99, .int 0, .ref q107, .ref q115, .ref q124, .ref q133, .ref q141, .int 0, .int 0, .ref q149, .ref q157, .ref q165, .int 0, .int 0, .null, .null, .null])) :: [(q7, .inl (E.2.2.1 0, 26, .inl (fun _ => 0))), (q26, .inl (E.2.2.1 0, 8, .inl (fun _ => 0))), (q34, .inl (E.2.2.1 0, 8, .inl (fun _ => 0))), (q42, .inl (E.2.2.1 0, 6, .inl (fun _ => 0))), (q50, .inl (E.2.2.1 3, 80, .inl (fun _ => 0))), (q58, .inl (E.2.2.1 1, 16, .inr (.inl (fun _ => 0)))), (q66, .inl (E.2.2.1 0, 16, .inl (fun _ => 0))), (q74, .inl (E.2.2.1 3, 40, .inl (fun _ => 0))), (q82, .inl (E.2.2.1 3, 40, .inl (fun _ => 0))), (q90, .inl (E.2.2.1 0, 6, .inl (fun _ => 0))), (q99, .inl (E.2.2.1 0, 312, .inl (fun _ => 0))), (q107, .inl (E.2.2.1 0, 26, .inl (fun _ => 0))), (q115, .inl (E.2.2.1 0, 26, .inl (fun _ => 0))), (q124, .inl (E.2.2.1 0, 240, .inl (fun _ => 0))), (q133, .inl (E.2.2.1 0, 1792, .inl (fun _ => 0))), (q141, .inl (E.2.2.1 0, 12, .inl (fun _ => 0))), (q149, .inl (E.2.2.1 1, 6, .inr (.inl (fun _ => 0)))), (q157, .inl (E.2.2.1 0, 10, .inl (fun _ => 0))), (q165, .inl (E.2.2.1 1, 6, .inr (.inl (fun _ => 0))))]) rfl ?_
  refine k_aload (i := 0) (x := q) hC dX12_init_170 rfl rfl ?_
  refine k_bipush (v := 52) hC dX12_init_171 (by decide +kernel) ?_
  refine k_newa (t := 0) (N' := 52) (a0 := (52, .inl (fun _ => 0))) (ty := .int) hC kt_51 rfl rfl (fun _ => rfl) (by decide) (by decide +kernel) (by decide) (by decide) (by decide) dX12_init_173 (fun q173 => ?_)
  refine k_ws (ws2 := (q, .inr (12, [.ref q7, .int 0, .int 0, .int 30, .int 3, .ref q26, .ref q34, .ref q42, .ref q50, .int 0, .ref q58, .int 0, .int 0, .null, .int 0, .int 0, .int 0, .int 0, .ref q66, .ref q74, .ref q82, .int 0, .int 0, .ref q90, .ref q99, .int 0, .ref q107, .ref q115, .ref q124, .ref q133, .ref q141, .int 0, .int 0, .ref q149, .ref q157, .ref q165, .int 0, .int 0, .null, .null, .null])) :: [(q7, .inl (E.2.2.1 0, 26, .inl (fun _ => 0))), (q26, .inl (E.2.2.1 0, 8, .inl (fun _ => 0))), (q34, .inl (E.2.2.1 0, 8, .inl (fun _ => 0))), (q42, .inl (E.2.2.1 0, 6, .inl (fun _ => 0))), (q50, .inl (E.2.2.1 3, 80, .inl (fun _ => 0))), (q58, .inl (E.2.2.1 1, 16, .inr (.inl (fun _ => 0)))), (q66, .inl (E.2.2.1 0, 16, .inl (fun _ => 0))), (q74, .inl (E.2.2.1 3, 40, .inl (fun _ => 0))), (q82, .inl (E.2.2.1 3, 40, .inl (fun _ => 0))), (q90, .inl (E.2.2.1 0, 6, .inl (fun _ => 0))), (q99, .inl (E.2.2.1 0, 312, .inl (fun _ => 0))), (q107, .inl (E.2.2.1 0, 26, .inl (fun _ => 0))), (q115, .inl (E.2.2.1 0, 26, .inl (fun _ => 0))), (q124, .inl (E.2.2.1 0, 240, .inl (fun _ => 0))), (q133, .inl (E.2.2.1 0, 1792, .inl (fun _ => 0))), (q141, .inl (E.2.2.1 0, 12, .inl (fun _ => 0))), (q149, .inl (E.2.2.1 1, 6, .inr (.inl (fun _ => 0)))), (q157, .inl (E.2.2.1 0, 10, .inl (fun _ => 0))), (q165, .inl (E.2.2.1 1, 6, .inr (.inl (fun _ => 0)))), (q173, .inl (E.2.2.1 0, 52, .inl (fun _ => 0)))]) rfl ?_
  refine k_put (q0 := 0) (fs := [.ref q7, .int 0, .int 0, .int 30, .int 3, .ref q26, .ref q34, .ref q42, .ref q50, .int 0, .ref q58, .int 0, .int 0, .null, .int 0, .int 0, .int 0, .int 0, .ref q66, .ref q74, .ref q82, .int 0, .int 0, .ref q90, .ref q99, .int 0, .ref q107, .ref q115, .ref q124, .ref q133, .ref q141, .int 0, .int 0, .ref q149, .ref q157, .ref q165, .int 0, .int 0, .null, .null, .null]) hC hI kf12_76 dX12_init_175 rfl rfl rfl (Nat.le_of_ble_eq_true rfl) ?_
  refine k_ws (ws2 := (q, .inr (12, [.ref q7, .int 0, .int 0, .int 30, .int 3, .ref q26, .ref q34, .ref q42, .ref q50, .int 0, .ref q58, .int 0, .int 0, .null, .int 0, .int 0, .int 0, .int 0, .ref q66, .ref q74, .ref q82, .int 0, .int 0, .ref q90, .ref q99, .int 0, .ref q107, .ref q115, .ref q124, .ref q133, .ref q141, .int 0, .int 0, .ref q149, .ref q157, .ref q165, .int 0, .int 0, .ref q173, .null, .null])) :: [(q7, .inl (E.2.2.1 0, 26, .inl (fun _ => 0))), (q26, .inl (E.2.2.1 0, 8, .inl (fun _ => 0))), (q34, .inl (E.2.2.1 0, 8, .inl (fun _ => 0))), (q42, .inl (E.2.2.1 0, 6, .inl (fun _ => 0))), (q50, .inl (E.2.2.1 3, 80, .inl (fun _ => 0))), (q58, .inl (E.2.2.1 1, 16, .inr (.inl (fun _ => 0)))), (q66, .inl (E.2.2.1 0, 16, .inl (fun _ => 0))), (q74, .inl (E.2.2.1 3, 40, .inl (fun _ => 0))), (q82, .inl (E.2.2.1 3, 40, .inl (fun _ => 0))), (q90, .inl (E.2.2.1 0, 6, .inl (fun _ => 0))), (q99, .inl (E.2.2.1 0, 312, .inl (fun _ => 0))), (q107, .inl (E.2.2.1 0, 26, .inl (fun _ => 0))), (q115, .inl (E.2.2.1 0, 26, .inl (fun _ => 0))), (q124, .inl (E.2.2.1 0, 240, .inl (fun _ => 0))), (q133, .inl (E.2.2.1 0, 1792, .inl (fun _ => 0))), (q141, .inl (E.2.2.1 0, 12, .inl (fun _ => 0))), (q149, .inl (E.2.2.1 1, 6, .inr (.inl (fun _ => 0)))), (q157, .inl (E.2.2.1 0, 10, .inl (fun _ => 0))), (q165, .inl (E.2.2.1 1, 6, .inr (.inl (fun _ => 0)))), (q173, .inl (E.2.2.1 0, 52, .inl (fun _ => 0)))]) rfl ?_
  refine k_aload (i := 0) (x := q) hC dX12_init_178 rfl rfl ?_
  refine k_iconst (v := 2) hC dX12_init_179 (by decide +kernel) ?_
  refine k_newa (t := 2) (N' := 2) (a0 := (2, .inl (fun _ => 0))) (ty := .boolean) hC kt_175 rfl rfl (fun _ => rfl) (by decide) (by decide +kernel) (by decide) (by decide) (by decide) dX12_init_180 (fun q180 => ?_)
  refine k_ws (ws2 := (q, .inr (12, [.ref q7, .int 0, .int 0, .int 30, .int 3, .ref q26, .ref q34, .ref q42, .ref q50, .int 0, .ref q58, .int 0, .int 0, .null, .int 0, .int 0, .int 0, .int 0, .ref q66, .ref q74, .ref q82, .int 0, .int 0, .ref q90, .ref q99, .int 0, .ref q107, .ref q115, .ref q124, .ref q133, .ref q141, .int 0, .int 0, .ref q149, .ref q157, .ref q165, .int 0, .int 0, .ref q173, .null, .null])) :: [(q7, .inl (E.2.2.1 0, 26, .inl (fun _ => 0))), (q26, .inl (E.2.2.1 0, 8, .inl (fun _ => 0))), (q34, .inl (E.2.2.1 0, 8, .inl (fun _ => 0))), (q42, .inl (E.2.2.1 0, 6, .inl (fun _ => 0))), (q50, .inl (E.2.2.1 3, 80, .inl (fun _ => 0))), (q58, .inl (E.2.2.1 1, 16, .inr (.inl (fun _ => 0)))), (q66, .inl (E.2.2.1 0, 16, .inl (fun _ => 0))), (q74, .inl (E.2.2.1 3, 40, .inl (fun _ => 0))), (q82, .inl (E.2.2.1 3, 40, .inl (fun _ => 0))), (q90, .inl (E.2.2.1 0, 6, .inl (fun _ => 0))), (q99, .inl (E.2.2.1 0, 312, .inl (fun _ => 0))), (q107, .inl (E.2.2.1 0, 26, .inl (fun _ => 0))), (q115, .inl (E.2.2.1 0, 26, .inl (fun _ => 0))), (q124, .inl (E.2.2.1 0, 240, .inl (fun _ => 0))), (q133, .inl (E.2.2.1 0, 1792, .inl (fun _ => 0))), (q141, .inl (E.2.2.1 0, 12, .inl (fun _ => 0))), (q149, .inl (E.2.2.1 1, 6, .inr (.inl (fun _ => 0)))), (q157, .inl (E.2.2.1 0, 10, .inl (fun _ => 0))), (q165, .inl (E.2.2.1 1, 6, .inr (.inl (fun _ => 0)))), (q173, .inl (E.2.2.1 0, 52, .inl (fun _ => 0))), (q180, .inl (E.2.2.1 2, 2, .inl (fun _ => 0)))]) rfl ?_
  refine k_put (q0 := 0) (fs := [.ref q7, .int 0, .int 0, .int 30, .int 3, .ref q26, .ref q34, .ref q42, .ref q50, .int 0, .ref q58, .int 0, .int 0, .null, .int 0, .int 0, .int 0, .int 0, .ref q66, .ref q74, .ref q82, .int 0, .int 0, .ref q90, .ref q99, .int 0, .ref q107, .ref q115, .ref q124, .ref q133, .ref q141, .int 0, .int 0, .ref q149, .ref q157, .ref q165, .int 0, .int 0, .ref q173, .null, .null]) hC hI kf12_79 dX12_init_182 rfl rfl rfl (Nat.le_of_ble_eq_true rfl) ?_
  refine k_ws (ws2 := (q, .inr (12, [.ref q7, .int 0, .int 0, .int 30, .int 3, .ref q26, .ref q34, .ref q42, .ref q50, .int 0, .ref q58, .int 0, .int 0, .null, .int 0, .int 0, .int 0, .int 0, .ref q66, .ref q74, .ref q82, .int 0, .int 0, .ref q90, .ref q99, .int 0, .ref q107, .ref q115, .ref q124, .ref q133, .ref q141, .int 0, .int 0, .ref q149, .ref q157, .ref q165, .int 0, .int 0, .ref q173, .ref q180, .null])) :: [(q7, .inl (E.2.2.1 0, 26, .inl (fun _ => 0))), (q26, .inl (E.2.2.1 0, 8, .inl (fun _ => 0))), (q34, .inl (E.2.2.1 0, 8, .inl (fun _ => 0))), (q42, .inl (E.2.2.1 0, 6, .inl (fun _ => 0))), (q50, .inl (E.2.2.1 3, 80, .inl (fun _ => 0))), (q58, .inl (E.2.2.1 1, 16, .inr (.inl (fun _ => 0)))), (q66, .inl (E.2.2.1 0, 16, .inl (fun _ => 0))), (q74, .inl (E.2.2.1 3, 40, .inl (fun _ => 0))), (q82, .inl (E.2.2.1 3, 40, .inl (fun _ => 0))), (q90, .inl (E.2.2.1 0, 6, .inl (fun _ => 0))), (q99, .inl (E.2.2.1 0, 312, .inl (fun _ => 0))), (q107, .inl (E.2.2.1 0, 26, .inl (fun _ => 0))), (q115, .inl (E.2.2.1 0, 26, .inl (fun _ => 0))), (q124, .inl (E.2.2.1 0, 240, .inl (fun _ => 0))), (q133, .inl (E.2.2.1 0, 1792, .inl (fun _ => 0))), (q141, .inl (E.2.2.1 0, 12, .inl (fun _ => 0))), (q149, .inl (E.2.2.1 1, 6, .inr (.inl (fun _ => 0)))), (q157, .inl (E.2.2.1 0, 10, .inl (fun _ => 0))), (q165, .inl (E.2.2.1 1, 6, .inr (.inl (fun _ => 0)))), (q173, .inl (E.2.2.1 0, 52, .inl (fun _ => 0))), (q180, .inl (E.2.2.1 2, 2, .inl (fun _ => 0)))]) rfl ?_
  refine k_aload (i := 0) (x := q) hC dX12_init_185 rfl rfl ?_
  refine k_iconst (v := 2) hC dX12_init_186 (by decide +kernel) ?_
  refine k_newa (t := 0) (N' := 2) (a0 := (2, .inl (fun _ => 0))) (ty := .int) hC kt_51 rfl rfl (fun _ => rfl) (by decide) (by decide +kernel) (by decide) (by decide) (by decide) dX12_init_187 (fun q187 => ?_)
  refine k_ws (ws2 := (q, .inr (12, [.ref q7, .int 0, .int 0, .int 30, .int 3, .ref q26, .ref q34, .ref q42, .ref q50, .int 0, .ref q58, .int 0, .int 0, .null, .int 0, .int 0, .int 0, .int 0, .ref q66, .ref q74, .ref q82, .int 0, .int 0, .ref q90, .ref q99, .int 0, .ref q107, .ref q115, .ref q124, .ref q133, .ref q141, .int 0, .int 0, .ref q149, .ref q157, .ref q165, .int 0, .int 0, .ref q173, .ref q180, .null])) :: [(q7, .inl (E.2.2.1 0, 26, .inl (fun _ => 0))), (q26, .inl (E.2.2.1 0, 8, .inl (fun _ => 0))), (q34, .inl (E.2.2.1 0, 8, .inl (fun _ => 0))), (q42, .inl (E.2.2.1 0, 6, .inl (fun _ => 0))), (q50, .inl (E.2.2.1 3, 80, .inl (fun _ => 0))), (q58, .inl (E.2.2.1 1, 16, .inr (.inl (fun _ => 0)))), (q66, .inl (E.2.2.1 0, 16, .inl (fun _ => 0))), (q74, .inl (E.2.2.1 3, 40, .inl (fun _ => 0))), (q82, .inl (E.2.2.1 3, 40, .inl (fun _ => 0))), (q90, .inl (E.2.2.1 0, 6, .inl (fun _ => 0))), (q99, .inl (E.2.2.1 0, 312, .inl (fun _ => 0))), (q107, .inl (E.2.2.1 0, 26, .inl (fun _ => 0))), (q115, .inl (E.2.2.1 0, 26, .inl (fun _ => 0))), (q124, .inl (E.2.2.1 0, 240, .inl (fun _ => 0))), (q133, .inl (E.2.2.1 0, 1792, .inl (fun _ => 0))), (q141, .inl (E.2.2.1 0, 12, .inl (fun _ => 0))), (q149, .inl (E.2.2.1 1, 6, .inr (.inl (fun _ => 0)))), (q157, .inl (E.2.2.1 0, 10, .inl (fun _ => 0))), (q165, .inl (E.2.2.1 1, 6, .inr (.inl (fun _ => 0)))), (q173, .inl (E.2.2.1 0, 52, .inl (fun _ => 0))), (q180, .inl (E.2.2.1 2, 2, .inl (fun _ => 0))), (q187, .inl (E.2.2.1 0, 2, .inl (fun _ => 0)))]) rfl ?_
  refine k_put (q0 := 0) (fs := [.ref q7, .int 0, .int 0, .int 30, .int 3, .ref q26, .ref q34, .ref q42, .ref q50, .int 0, .ref q58, .int 0, .int 0, .null, .int 0, .int 0, .int 0, .int 0, .ref q66, .ref q74, .ref q82, .int 0, .int 0, .ref q90, .ref q99, .int 0, .ref q107, .ref q115, .ref q124, .ref q133, .ref q141, .int 0, .int 0, .ref q149, .ref q157, .ref q165, .int 0, .int 0, .ref q173, .ref q180, .null]) hC hI kf12_83 dX12_init_189 rfl rfl rfl (Nat.le_of_ble_eq_true rfl) ?_
  refine k_ws (ws2 := (q, .inr (12, [.ref q7, .int 0, .int 0, .int 30, .int 3, .ref q26, .ref q34, .ref q42, .ref q50, .int 0, .ref q58, .int 0, .int 0, .null, .int 0, .int 0, .int 0, .int 0, .ref q66, .ref q74, .ref q82, .int 0, .int 0, .ref q90, .ref q99, .int 0, .ref q107, .ref q115, .ref q124, .ref q133, .ref q141, .int 0, .int 0, .ref q149, .ref q157, .ref q165, .int 0, .int 0, .ref q173, .ref q180, .ref q187])) :: [(q7, .inl (E.2.2.1 0, 26, .inl (fun _ => 0))), (q26, .inl (E.2.2.1 0, 8, .inl (fun _ => 0))), (q34, .inl (E.2.2.1 0, 8, .inl (fun _ => 0))), (q42, .inl (E.2.2.1 0, 6, .inl (fun _ => 0))), (q50, .inl (E.2.2.1 3, 80, .inl (fun _ => 0))), (q58, .inl (E.2.2.1 1, 16, .inr (.inl (fun _ => 0)))), (q66, .inl (E.2.2.1 0, 16, .inl (fun _ => 0))), (q74, .inl (E.2.2.1 3, 40, .inl (fun _ => 0))), (q82, .inl (E.2.2.1 3, 40, .inl (fun _ => 0))), (q90, .inl (E.2.2.1 0, 6, .inl (fun _ => 0))), (q99, .inl (E.2.2.1 0, 312, .inl (fun _ => 0))), (q107, .inl (E.2.2.1 0, 26, .inl (fun _ => 0))), (q115, .inl (E.2.2.1 0, 26, .inl (fun _ => 0))), (q124, .inl (E.2.2.1 0, 240, .inl (fun _ => 0))), (q133, .inl (E.2.2.1 0, 1792, .inl (fun _ => 0))), (q141, .inl (E.2.2.1 0, 12, .inl (fun _ => 0))), (q149, .inl (E.2.2.1 1, 6, .inr (.inl (fun _ => 0)))), (q157, .inl (E.2.2.1 0, 10, .inl (fun _ => 0))), (q165, .inl (E.2.2.1 1, 6, .inr (.inl (fun _ => 0)))), (q173, .inl (E.2.2.1 0, 52, .inl (fun _ => 0))), (q180, .inl (E.2.2.1 2, 2, .inl (fun _ => 0))), (q187, .inl (E.2.2.1 0, 2, .inl (fun _ => 0)))]) rfl ?_
  exact k_vret hC hq (by decide) (by decide) dX12_init_192 (fun j => ([q7, q26, q34, q42, q50, q58, q66, q74, q82, q90, q99, q107, q115, q124, q133, q141, q149, q157, q165, q173, q180, q187] : List Nat).getD j 0) rfl
theorem cBP (E : kE) (q a b c : Nat) : CK E 1 0 0 yX4_becomePlain cX4_becomePlain 1 [.ref q] [(q, .inr (4, [.ref a, .ref b, .ref c, .int 0])), (a, .inl (E.2.2.1 0, 40, .inl (fun _ => 0))), (b, .inl (E.2.2.1 0, 40, .inl (fun _ => 0))), (c, .inl (E.2.2.1 0, 6, .inl (fun _ => 0)))] (fun _ : Unit => [(q, .inr (4, [.ref a, .ref b, .ref c, .int 9])), (a, .inl (E.2.2.1 0, 40, .inl (va_cpy (fun j => zPlain.getD j 0) (fun _ => 0) 0 0 9))), (b, .inl (E.2.2.1 0, 40, .inl (fun _ => 0))), (c, .inl (E.2.2.1 0, 6, .inl (fun _ => 0)))]) := by
  refine CK.of (by decide) (Nat.le_of_ble_eq_true rfl) (fun Γ hC _ hq => ?_)
  have hC : Kx E Γ RX4 cX4_becomePlain 1 1 0 0 := hC
  show GC E Γ 0 0 1 0 [(0, .ref q)] [] [(q, .inr (4, [.ref a, .ref b, .ref c, .int 0])), (a, .inl (E.2.2.1 0, 40, .inl (fun _ => 0))), (b, .inl (E.2.2.1 0, 40, .inl (fun _ => 0))), (c, .inl (E.2.2.1 0, 6, .inl (fun _ => 0)))]
  refine k_getsP hC m_156 (dX4_becomePlain_0) ?_
  refine k_iconst (v := 0) hC (dX4_becomePlain_3) kc_0 ?_
  refine k_aload (i := 0) (x := q) hC (dX4_becomePlain_4) rfl rfl ?_
  refine k_get (q0 := 0) hC kf4_9 (dX4_becomePlain_5) rfl rfl ?_
  refine k_iconst (v := 0) hC (dX4_becomePlain_8) kc_0 ?_
  refine k_getsP hC m_156 (dX4_becomePlain_9) ?_
  refine k_alenP hC (dX4_becomePlain_12) ?_
  refine k_copyP (q0 := 1) hC wcX4_31 (dX4_becomePlain_13) rfl (by decide) (by decide) (Nat.le_of_ble_eq_true rfl) ?_
  refine k_ws (ws2 := [(q, .inr (4, [.ref a, .ref b, .ref c, .int 0])), (a, .inl (E.2.2.1 0, 40, .inl (va_cpy (fun j => zPlain.getD j 0) (fun _ => 0) 0 0 9))), (b, .inl (E.2.2.1 0, 40, .inl (fun _ => 0))), (c, .inl (E.2.2.1 0, 6, .inl (fun _ => 0)))]) rfl ?_
  refine k_aload (i := 0) (x := q) hC (dX4_becomePlain_16) rfl rfl ?_
  refine k_getsP hC m_156 (dX4_becomePlain_17) ?_
  refine k_alenP hC (dX4_becomePlain_20) ?_
  refine k_putI (q0 := 0) hC kf4_21 (dX4_becomePlain_21) rfl rfl rfl (Nat.le_of_ble_eq_true rfl) ?_
  exact k_vret hC hq (by decide) (by decide) dX4_becomePlain_24 () rfl
theorem dX4_init_0 : decode cX4_init 0 = .ok (.aload_n 0, 1) := by decide +kernel
theorem dX4_init_1 : decode cX4_init 1 = .ok (.invokespecial 3, 3) := by decide +kernel
theorem dX4_init_4 : decode cX4_init 4 = .ok (.aload_n 0, 1) := by decide +kernel
theorem dX4_init_5 : decode cX4_init 5 = .ok (.bipush 40, 2) := by decide +kernel
theorem dX4_init_7 : decode cX4_init 7 = .ok (.newarray .int, 2) := by decide +kernel
theorem dX4_init_9 : decode cX4_init 9 = .ok (.putfield 9, 3) := by decide +kernel
theorem dX4_init_12 : decode cX4_init 12 = .ok (.aload_n 0, 1) := by decide +kernel
theorem dX4_init_13 : decode cX4_init 13 = .ok (.bipush 40, 2) := by decide +kernel
theorem dX4_init_15 : decode cX4_init 15 = .ok (.newarray .int, 2) := by decide +kernel
theorem dX4_init_17 : decode cX4_init 17 = .ok (.putfield 15, 3) := by decide +kernel
theorem dX4_init_20 : decode cX4_init 20 = .ok (.aload_n 0, 1) := by decide +kernel
theorem dX4_init_21 : decode cX4_init 21 = .ok (.bipush 6, 2) := by decide +kernel
theorem dX4_init_23 : decode cX4_init 23 = .ok (.newarray .int, 2) := by decide +kernel
theorem dX4_init_25 : decode cX4_init 25 = .ok (.putfield 18, 3) := by decide +kernel
theorem dX4_init_28 : decode cX4_init 28 = .ok (.aload_n 0, 1) := by decide +kernel
theorem dX4_init_29 : decode cX4_init 29 = .ok (.iconst 0, 1) := by decide +kernel
theorem dX4_init_30 : decode cX4_init 30 = .ok (.putfield 21, 3) := by decide +kernel
theorem dX4_init_33 : decode cX4_init 33 = .ok (.aload_n 0, 1) := by decide +kernel
theorem dX4_init_34 : decode cX4_init 34 = .ok (.invokevirtual 25, 3) := by decide +kernel
theorem dX4_init_37 : decode cX4_init 37 = .ok (.return_, 1) := by decide +kernel
theorem cK4 (E : kE) (q : Nat) : CK E 2 3 86 yX4_init cX4_init 1 [.ref q] [(q, .inr (4, [.null, .null, .null, .int 0]))] (bX4 E q) := by
  refine CK.of (by decide) (Nat.le_of_ble_eq_true rfl) (fun Γ hC hI hq => ?_)
  have hC : Kx E Γ RX4 cX4_init 1 2 3 86 := hC
  have hI := hI rfl
  show GC E Γ 0 0 1 0 [(0, .ref q)] [] [(q, .inr (4, [.null, .null, .null, .int 0]))]
  refine k_aload (i := 0) (x := q) hC dX4_init_0 rfl rfl ?_
  refine k_objInit hC kt_151 kt_32 kt_33 dX4_init_1 (by decide) ?_
  refine k_aload (i := 0) (x := q) hC dX4_init_4 rfl rfl ?_
  refine k_bipush (v := 40) hC dX4_init_5 (by decide +kernel) ?_
  refine k_newa (t := 0) (N' := 40) (a0 := (40, .inl (fun _ => 0))) (ty := .int) hC kt_51 rfl rfl (fun _ => rfl) (by decide) (by decide +kernel) (by decide) (by decide) (by decide) dX4_init_7 (fun q7 => ?_)
  refine k_ws (ws2 := (q, .inr (4, [.null, .null, .null, .int 0])) :: [(q7, .inl (E.2.2.1 0, 40, .inl (fun _ => 0)))]) rfl ?_
  refine k_put (q0 := 0) (fs := [.null, .null, .null, .int 0]) hC hI kf4_9 dX4_init_9 rfl rfl rfl (Nat.le_of_ble_eq_true rfl) ?_
  refine k_ws (ws2 := (q, .inr (4, [.ref q7, .null, .null, .int 0])) :: [(q7, .inl (E.2.2.1 0, 40, .inl (fun _ => 0)))]) rfl ?_
  refine k_aload (i := 0) (x := q) hC dX4_init_12 rfl rfl ?_
  refine k_bipush (v := 40) hC dX4_init_13 (by decide +kernel) ?_
  refine k_newa (t := 0) (N' := 40) (a0 := (40, .inl (fun _ => 0))) (ty := .int) hC kt_51 rfl rfl (fun _ => rfl) (by decide) (by decide +kernel) (by decide) (by decide) (by decide) dX4_init_15 (fun q15 => ?_)
  refine k_ws (ws2 := (q, .inr (4, [.ref q7, .null, .null, .int 0])) :: [(q7, .inl (E.2.2.1 0, 40, .inl (fun _ => 0))), (q15, .inl (E.2.2.1 0, 40, .inl (fun _ => 0)))]) rfl ?_
  refine k_put (q0 := 0) (fs := [.ref q7, .null, .null, .int 0]) hC hI kf4_15 dX4_init_17 rfl rfl rfl (Nat.le_of_ble_eq_true rfl) ?_
  refine k_ws (ws2 := (q, .inr (4, [.ref q7, .ref q15, .null, .int 0])) :: [(q7, .inl (E.2.2.1 0, 40, .inl (fun _ => 0))), (q15, .inl (E.2.2.1 0, 40, .inl (fun _ => 0)))]) rfl ?_
  refine k_aload (i := 0) (x := q) hC dX4_init_20 rfl rfl ?_
  refine k_bipush (v := 6) hC dX4_init_21 (by decide +kernel) ?_
  refine k_newa (t := 0) (N' := 6) (a0 := (6, .inl (fun _ => 0))) (ty := .int) hC kt_51 rfl rfl (fun _ => rfl) (by decide) (by decide +kernel) (by decide) (by decide) (by decide) dX4_init_23 (fun q23 => ?_)
  refine k_ws (ws2 := (q, .inr (4, [.ref q7, .ref q15, .null, .int 0])) :: [(q7, .inl (E.2.2.1 0, 40, .inl (fun _ => 0))), (q15, .inl (E.2.2.1 0, 40, .inl (fun _ => 0))), (q23, .inl (E.2.2.1 0, 6, .inl (fun _ => 0)))]) rfl ?_
  refine k_put (q0 := 0) (fs := [.ref q7, .ref q15, .null, .int 0]) hC hI kf4_18 dX4_init_25 rfl rfl rfl (Nat.le_of_ble_eq_true rfl) ?_
  refine k_ws (ws2 := (q, .inr (4, [.ref q7, .ref q15, .ref q23, .int 0])) :: [(q7, .inl (E.2.2.1 0, 40, .inl (fun _ => 0))), (q15, .inl (E.2.2.1 0, 40, .inl (fun _ => 0))), (q23, .inl (E.2.2.1 0, 6, .inl (fun _ => 0)))]) rfl ?_
  refine k_aload (i := 0) (x := q) hC dX4_init_28 rfl rfl ?_
  refine k_iconst (v := 0) hC dX4_init_29 (by decide +kernel) ?_
  refine k_put (q0 := 0) (fs := [.ref q7, .ref q15, .ref q23, .int 0]) hC hI kf4_21 dX4_init_30 rfl rfl rfl (Nat.le_of_ble_eq_true rfl) ?_
  refine k_ws (ws2 := (q, .inr (4, [.ref q7, .ref q15, .ref q23, .int 0])) :: [(q7, .inl (E.2.2.1 0, 40, .inl (fun _ => 0))), (q15, .inl (E.2.2.1 0, 40, .inl (fun _ => 0))), (q23, .inl (E.2.2.1 0, 6, .inl (fun _ => 0)))]) rfl ?_
  refine k_aload (i := 0) (x := q) hC dX4_init_33 rfl rfl ?_
  refine k_callV (w0 := []) (wc := (q, .inr (4, [.ref q7, .ref q15, .ref q23, .int 0])) :: [(q7, .inl (E.2.2.1 0, 40, .inl (fun _ => 0))), (q15, .inl (E.2.2.1 0, 40, .inl (fun _ => 0))), (q23, .inl (E.2.2.1 0, 6, .inl (fun _ => 0)))]) (st := []) (d' := 1) (mc' := 0) (ms' := 0) (C := RX4) (T := TX4) (N := 4) (ci := 4) [] hC kwX4_25 kt_152 kt_154 rfl rfl dX4_init_34 rfl (by decide) (Nat.le_of_ble_eq_true rfl) (by decide) (by decide) (cBP E q q7 q15 q23) (fun _ => ?_)
  exact k_vret hC hq (by decide) (by decide) dX4_init_37 (fun j => ([q7, q15, q23] : List Nat).getD j 0) rfl
theorem dX10_init_0 : decode cX10_init 0 = .ok (.aload_n 0, 1) := by decide +kernel
theorem dX10_init_1 : decode cX10_init 1 = .ok (.invokespecial 3, 3) := by decide +kernel
theorem dX10_init_4 : decode cX10_init 4 = .ok (.aload_n 0, 1) := by decide +kernel
theorem dX10_init_5 : decode cX10_init 5 = .ok (.bipush 8, 2) := by decide +kernel
theorem dX10_init_7 : decode cX10_init 7 = .ok (.newarray .int, 2) := by decide +kernel
theorem dX10_init_9 : decode cX10_init 9 = .ok (.putfield 9, 3) := by decide +kernel
theorem dX10_init_12 : decode cX10_init 12 = .ok (.aload_n 0, 1) := by decide +kernel
theorem dX10_init_13 : decode cX10_init 13 = .ok (.bipush 8, 2) := by decide +kernel
theorem dX10_init_15 : decode cX10_init 15 = .ok (.newarray .int, 2) := by decide +kernel
theorem dX10_init_17 : decode cX10_init 17 = .ok (.putfield 15, 3) := by decide +kernel
theorem dX10_init_20 : decode cX10_init 20 = .ok (.aload_n 0, 1) := by decide +kernel
theorem dX10_init_21 : decode cX10_init 21 = .ok (.bipush 8, 2) := by decide +kernel
theorem dX10_init_23 : decode cX10_init 23 = .ok (.newarray .int, 2) := by decide +kernel
theorem dX10_init_25 : decode cX10_init 25 = .ok (.putfield 18, 3) := by decide +kernel
theorem dX10_init_28 : decode cX10_init 28 = .ok (.aload_n 0, 1) := by decide +kernel
theorem dX10_init_29 : decode cX10_init 29 = .ok (.bipush 8, 2) := by decide +kernel
theorem dX10_init_31 : decode cX10_init 31 = .ok (.newarray .int, 2) := by decide +kernel
theorem dX10_init_33 : decode cX10_init 33 = .ok (.putfield 21, 3) := by decide +kernel
theorem dX10_init_36 : decode cX10_init 36 = .ok (.aload_n 0, 1) := by decide +kernel
theorem dX10_init_37 : decode cX10_init 37 = .ok (.iconst 0, 1) := by decide +kernel
theorem dX10_init_38 : decode cX10_init 38 = .ok (.putfield 24, 3) := by decide +kernel
theorem dX10_init_41 : decode cX10_init 41 = .ok (.aload_n 0, 1) := by decide +kernel
theorem dX10_init_42 : decode cX10_init 42 = .ok (.iconst 0, 1) := by decide +kernel
theorem dX10_init_43 : decode cX10_init 43 = .ok (.putfield 28, 3) := by decide +kernel
theorem dX10_init_46 : decode cX10_init 46 = .ok (.iconst 0, 1) := by decide +kernel
theorem dX10_init_47 : decode cX10_init 47 = .ok (.istore_n 1, 1) := by decide +kernel
theorem dX10_init_48 : decode cX10_init 48 = .ok (.iload_n 1, 1) := by decide +kernel
theorem dX10_init_49 : decode cX10_init 49 = .ok (.bipush 8, 2) := by decide +kernel
theorem dX10_init_51 : decode cX10_init 51 = .ok (.if_icmp .ge 37, 3) := by decide +kernel
theorem dX10_init_54 : decode cX10_init 54 = .ok (.aload_n 0, 1) := by decide +kernel
theorem dX10_init_55 : decode cX10_init 55 = .ok (.getfield 9, 3) := by decide +kernel
theorem dX10_init_58 : decode cX10_init 58 = .ok (.iload_n 1, 1) := by decide +kernel
theorem dX10_init_59 : decode cX10_init 59 = .ok (.iconst (-1), 1) := by decide +kernel
theorem dX10_init_60 : decode cX10_init 60 = .ok (.iastore, 1) := by decide +kernel
theorem dX10_init_61 : decode cX10_init 61 = .ok (.aload_n 0, 1) := by decide +kernel
theorem dX10_init_62 : decode cX10_init 62 = .ok (.getfield 15, 3) := by decide +kernel
theorem dX10_init_65 : decode cX10_init 65 = .ok (.iload_n 1, 1) := by decide +kernel
theorem dX10_init_66 : decode cX10_init 66 = .ok (.iconst (-1), 1) := by decide +kernel
theorem dX10_init_67 : decode cX10_init 67 = .ok (.iastore, 1) := by decide +kernel
theorem dX10_init_68 : decode cX10_init 68 = .ok (.aload_n 0, 1) := by decide +kernel
theorem dX10_init_69 : decode cX10_init 69 = .ok (.getfield 18, 3) := by decide +kernel
theorem dX10_init_72 : decode cX10_init 72 = .ok (.iload_n 1, 1) := by decide +kernel
theorem dX10_init_73 : decode cX10_init 73 = .ok (.iconst (-1), 1) := by decide +kernel
theorem dX10_init_74 : decode cX10_init 74 = .ok (.iastore, 1) := by decide +kernel
theorem dX10_init_75 : decode cX10_init 75 = .ok (.aload_n 0, 1) := by decide +kernel
theorem dX10_init_76 : decode cX10_init 76 = .ok (.getfield 21, 3) := by decide +kernel
theorem dX10_init_79 : decode cX10_init 79 = .ok (.iload_n 1, 1) := by decide +kernel
theorem dX10_init_80 : decode cX10_init 80 = .ok (.iconst (-1), 1) := by decide +kernel
theorem dX10_init_81 : decode cX10_init 81 = .ok (.iastore, 1) := by decide +kernel
theorem dX10_init_82 : decode cX10_init 82 = .ok (.iinc 1 1, 3) := by decide +kernel
theorem dX10_init_85 : decode cX10_init 85 = .ok (.goto (-37), 3) := by decide +kernel
theorem dX10_init_88 : decode cX10_init 88 = .ok (.return_, 1) := by decide +kernel
theorem upd_fI (i : Nat) (h : i < 8) : upd (fI i) (nI i).toNatClampNeg (-1) = fI (i + 1) := by
  rw [nI_clamp (by omega)]
  funext j
  unfold upd fI
  by_cases z : j = i
  · subst z; rw [if_pos rfl, if_pos (by omega)]
  · rw [if_neg z]
    by_cases z2 : j < i
    · rw [if_pos z2, if_pos (by omega)]
    · rw [if_neg z2, if_neg (by omega)]
theorem kW_loop {E : kE} {Γ : zU} {q a0 a1 a2 a3 : Nat} (hC : Kx E Γ RX10 cX10_init 2 1 4 32) (hq : kQ E Γ 4 32 (bX10 E q)) : ∀ r i, i + r = 8 → GC E Γ 4 32 2 48 [(1, .int (nI i)), (0, .ref q)] [] [(q, .inr (10, [.ref a0, .ref a1, .ref a2, .ref a3, .int 0, .int 0])), (a0, .inl (E.2.2.1 0, 8, .inl (fI i))), (a1, .inl (E.2.2.1 0, 8, .inl (fI i))), (a2, .inl (E.2.2.1 0, 8, .inl (fI i))), (a3, .inl (E.2.2.1 0, 8, .inl (fI i)))] := by
  intro r
  induction r with
  | zero =>
    intro i hi
    have e8 : i = 8 := by omega
    subst e8
    refine k_iload (i := 1) (x := nI 8) hC dX10_init_48 rfl rfl ?_
    refine k_bipush (v := 8) hC dX10_init_49 (by decide +kernel) ?_
    refine k_icmp_ge (tgt := 88) hC dX10_init_51 (by decide) (fun _ => ?_) (fun z => absurd (by decide +kernel) z)
    exact k_vret hC hq (by decide) (by decide) dX10_init_88 (fun j => ([a0, a1, a2, a3] : List Nat).getD j 0) rfl
  | succ r ih =>
    intro i hi
    have i8 : i < 8 := by omega
    have hz : zin (nI i) 8 := zinT i8 (by omega)
    refine k_iload (i := 1) (x := nI i) hC dX10_init_48 rfl rfl ?_
    refine k_bipush (v := 8) hC dX10_init_49 (by decide +kernel) ?_
    refine k_icmp_ge (tgt := 88) hC dX10_init_51 (by decide) (fun z => absurd (show nI 8 ≤ nI i from z) (leF i8 (by omega))) (fun _ => ?_)
    refine k_aload (i := 0) (x := q) hC dX10_init_54 rfl rfl ?_
    refine k_get (q0 := 0) hC kf10_9 dX10_init_55 rfl rfl ?_
    refine k_iload (i := 1) (x := nI i) hC dX10_init_58 rfl rfl ?_
    refine k_iconst (v := -1) hC dX10_init_59 (by decide +kernel) ?_
    refine k_iast (q0 := 1) hC dX10_init_60 rfl hz ?_
    rw [upd_fI i i8]
    refine k_ws (ws2 := [(q, .inr (10, [.ref a0, .ref a1, .ref a2, .ref a3, .int 0, .int 0])), (a0, .inl (E.2.2.1 0, 8, .inl (fI (i + 1)))), (a1, .inl (E.2.2.1 0, 8, .inl (fI i))), (a2, .inl (E.2.2.1 0, 8, .inl (fI i))), (a3, .inl (E.2.2.1 0, 8, .inl (fI i)))]) rfl ?_
    refine k_aload (i := 0) (x := q) hC dX10_init_61 rfl rfl ?_
    refine k_get (q0 := 0) hC kf10_15 dX10_init_62 rfl rfl ?_
    refine k_iload (i := 1) (x := nI i) hC dX10_init_65 rfl rfl ?_
    refine k_iconst (v := -1) hC dX10_init_66 (by decide +kernel) ?_
    refine k_iast (q0 := 2) hC dX10_init_67 rfl hz ?_
    rw [upd_fI i i8]
    refine k_ws (ws2 := [(q, .inr (10, [.ref a0, .ref a1, .ref a2, .ref a3, .int 0, .int 0])), (a0, .inl (E.2.2.1 0, 8, .inl (fI (i + 1)))), (a1, .inl (E.2.2.1 0, 8, .inl (fI (i + 1)))), (a2, .inl (E.2.2.1 0, 8, .inl (fI i))), (a3, .inl (E.2.2.1 0, 8, .inl (fI i)))]) rfl ?_
    refine k_aload (i := 0) (x := q) hC dX10_init_68 rfl rfl ?_
    refine k_get (q0 := 0) hC kf10_18 dX10_init_69 rfl rfl ?_
    refine k_iload (i := 1) (x := nI i) hC dX10_init_72 rfl rfl ?_
    refine k_iconst (v := -1) hC dX10_init_73 (by decide +kernel) ?_
    refine k_iast (q0 := 3) hC dX10_init_74 rfl hz ?_
    rw [upd_fI i i8]
    refine k_ws (ws2 := [(q, .inr (10, [.ref a0, .ref a1, .ref a2, .ref a3, .int 0, .int 0])), (a0, .inl (E.2.2.1 0, 8, .inl (fI (i + 1)))), (a1, .inl (E.2.2.1 0, 8, .inl (fI (i + 1)))), (a2, .inl (E.2.2.1 0, 8, .inl (fI (i + 1)))), (a3, .inl (E.2.2.1 0, 8, .inl (fI i)))]) rfl ?_
    refine k_aload (i := 0) (x := q) hC dX10_init_75 rfl rfl ?_
    refine k_get (q0 := 0) hC kf10_21 dX10_init_76 rfl rfl ?_
    refine k_iload (i := 1) (x := nI i) hC dX10_init_79 rfl rfl ?_
    refine k_iconst (v := -1) hC dX10_init_80 (by decide +kernel) ?_
    refine k_iast (q0 := 4) hC dX10_init_81 rfl hz ?_
    rw [upd_fI i i8]
    refine k_ws (ws2 := [(q, .inr (10, [.ref a0, .ref a1, .ref a2, .ref a3, .int 0, .int 0])), (a0, .inl (E.2.2.1 0, 8, .inl (fI (i + 1)))), (a1, .inl (E.2.2.1 0, 8, .inl (fI (i + 1)))), (a2, .inl (E.2.2.1 0, 8, .inl (fI (i + 1)))), (a3, .inl (E.2.2.1 0, 8, .inl (fI (i + 1))))]) rfl ?_
    refine k_iinc (x := nI i) (v := nI (i + 1)) (lv2 := [(1, .int (nI (i + 1))), (0, .ref q)]) hC dX10_init_82 rfl (nI_add i 1) (by decide) rfl ?_
    refine k_goto (tgt := 48) hC dX10_init_85 (by decide) ?_
    exact ih (i + 1) (by omega)
theorem cK10 (E : kE) (q : Nat) : CK E 1 4 32 yX10_init cX10_init 2 [.ref q] [(q, .inr (10, [.null, .null, .null, .null, .int 0, .int 0]))] (bX10 E q) := by
  refine CK.of (by decide) (Nat.le_of_ble_eq_true rfl) (fun Γ hC hI hq => ?_)
  have hC : Kx E Γ RX10 cX10_init 2 1 4 32 := hC
  have hI := hI rfl
  show GC E Γ 0 0 2 0 [(0, .ref q)] [] [(q, .inr (10, [.null, .null, .null, .null, .int 0, .int 0]))]
  refine k_aload (i := 0) (x := q) hC dX10_init_0 rfl rfl ?_
  refine k_objInit hC kt_100 kt_32 kt_33 dX10_init_1 (by decide) ?_
  refine k_aload (i := 0) (x := q) hC dX10_init_4 rfl rfl ?_
  refine k_bipush (v := 8) hC dX10_init_5 (by decide +kernel) ?_
  refine k_newa (t := 0) (N' := 8) (a0 := (8, .inl (fun _ => 0))) (ty := .int) hC kt_51 rfl rfl (fun _ => rfl) (by decide) (by decide +kernel) (by decide) (by decide) (by decide) dX10_init_7 (fun q7 => ?_)
  refine k_ws (ws2 := (q, .inr (10, [.null, .null, .null, .null, .int 0, .int 0])) :: [(q7, .inl (E.2.2.1 0, 8, .inl (fun _ => 0)))]) rfl ?_
  refine k_put (q0 := 0) (fs := [.null, .null, .null, .null, .int 0, .int 0]) hC hI kf10_9 dX10_init_9 rfl rfl rfl (Nat.le_of_ble_eq_true rfl) ?_
  refine k_ws (ws2 := (q, .inr (10, [.ref q7, .null, .null, .null, .int 0, .int 0])) :: [(q7, .inl (E.2.2.1 0, 8, .inl (fun _ => 0)))]) rfl ?_
  refine k_aload (i := 0) (x := q) hC dX10_init_12 rfl rfl ?_
  refine k_bipush (v := 8) hC dX10_init_13 (by decide +kernel) ?_
  refine k_newa (t := 0) (N' := 8) (a0 := (8, .inl (fun _ => 0))) (ty := .int) hC kt_51 rfl rfl (fun _ => rfl) (by decide) (by decide +kernel) (by decide) (by decide) (by decide) dX10_init_15 (fun q15 => ?_)
  refine k_ws (ws2 := (q, .inr (10, [.ref q7, .null, .null, .null, .int 0, .int 0])) :: [(q7, .inl (E.2.2.1 0, 8, .inl (fun _ => 0))), (q15, .inl (E.2.2.1 0, 8, .inl (fun _ => 0)))]) rfl ?_
  refine k_put (q0 := 0) (fs := [.ref q7, .null, .null, .null, .int 0, .int 0]) hC hI kf10_15 dX10_init_17 rfl rfl rfl (Nat.le_of_ble_eq_true rfl) ?_
  refine k_ws (ws2 := (q, .inr (10, [.ref q7, .ref q15, .null, .null, .int 0, .int 0])) :: [(q7, .inl (E.2.2.1 0, 8, .inl (fun _ => 0))), (q15, .inl (E.2.2.1 0, 8, .inl (fun _ => 0)))]) rfl ?_
  refine k_aload (i := 0) (x := q) hC dX10_init_20 rfl rfl ?_
  refine k_bipush (v := 8) hC dX10_init_21 (by decide +kernel) ?_
  refine k_newa (t := 0) (N' := 8) (a0 := (8, .inl (fun _ => 0))) (ty := .int) hC kt_51 rfl rfl (fun _ => rfl) (by decide) (by decide +kernel) (by decide) (by decide) (by decide) dX10_init_23 (fun q23 => ?_)
  refine k_ws (ws2 := (q, .inr (10, [.ref q7, .ref q15, .null, .null, .int 0, .int 0])) :: [(q7, .inl (E.2.2.1 0, 8, .inl (fun _ => 0))), (q15, .inl (E.2.2.1 0, 8, .inl (fun _ => 0))), (q23, .inl (E.2.2.1 0, 8, .inl (fun _ => 0)))]) rfl ?_
  refine k_put (q0 := 0) (fs := [.ref q7, .ref q15, .null, .null, .int 0, .int 0]) hC hI kf10_18 dX10_init_25 rfl rfl rfl (Nat.le_of_ble_eq_true rfl) ?_
  refine k_ws (ws2 := (q, .inr (10, [.ref q7, .ref q15, .ref q23, .null, .int 0, .int 0])) :: [(q7, .inl (E.2.2.1 0, 8, .inl (fun _ => 0))), (q15, .inl (E.2.2.1 0, 8, .inl (fun _ => 0))), (q23, .inl (E.2.2.1 0, 8, .inl (fun _ => 0)))]) rfl ?_
  refine k_aload (i := 0) (x := q) hC dX10_init_28 rfl rfl ?_
  refine k_bipush (v := 8) hC dX10_init_29 (by decide +kernel) ?_
  refine k_newa (t := 0) (N' := 8) (a0 := (8, .inl (fun _ => 0))) (ty := .int) hC kt_51 rfl rfl (fun _ => rfl) (by decide) (by decide +kernel) (by decide) (by decide) (by decide) dX10_init_31 (fun q31 => ?_)
  refine k_ws (ws2 := (q, .inr (10, [.ref q7, .ref q15, .ref q23, .null, .int 0, .int 0])) :: [(q7, .inl (E.2.2.1 0, 8, .inl (fun _ => 0))), (q15, .inl (E.2.2.1 0, 8, .inl (fun _ => 0))), (q23, .inl (E.2.2.1 0, 8, .inl (fun _ => 0))), (q31, .inl (E.2.2.1 0, 8, .inl (fun _ => 0)))]) rfl ?_
  refine k_put (q0 := 0) (fs := [.ref q7, .ref q15, .ref q23, .null, .int 0, .int 0]) hC hI kf10_21 dX10_init_33 rfl rfl rfl (Nat.le_of_ble_eq_true rfl) ?_
  refine k_ws (ws2 := (q, .inr (10, [.ref q7, .ref q15, .ref q23, .ref q31, .int 0, .int 0])) :: [(q7, .inl (E.2.2.1 0, 8, .inl (fun _ => 0))), (q15, .inl (E.2.2.1 0, 8, .inl (fun _ => 0))), (q23, .inl (E.2.2.1 0, 8, .inl (fun _ => 0))), (q31, .inl (E.2.2.1 0, 8, .inl (fun _ => 0)))]) rfl ?_
  refine k_aload (i := 0) (x := q) hC dX10_init_36 rfl rfl ?_
  refine k_iconst (v := 0) hC dX10_init_37 (by decide +kernel) ?_
  refine k_put (q0 := 0) (fs := [.ref q7, .ref q15, .ref q23, .ref q31, .int 0, .int 0]) hC hI kf10_24 dX10_init_38 rfl rfl rfl (Nat.le_of_ble_eq_true rfl) ?_
  refine k_ws (ws2 := (q, .inr (10, [.ref q7, .ref q15, .ref q23, .ref q31, .int 0, .int 0])) :: [(q7, .inl (E.2.2.1 0, 8, .inl (fun _ => 0))), (q15, .inl (E.2.2.1 0, 8, .inl (fun _ => 0))), (q23, .inl (E.2.2.1 0, 8, .inl (fun _ => 0))), (q31, .inl (E.2.2.1 0, 8, .inl (fun _ => 0)))]) rfl ?_
  refine k_aload (i := 0) (x := q) hC dX10_init_41 rfl rfl ?_
  refine k_iconst (v := 0) hC dX10_init_42 (by decide +kernel) ?_
  refine k_put (q0 := 0) (fs := [.ref q7, .ref q15, .ref q23, .ref q31, .int 0, .int 0]) hC hI kf10_28 dX10_init_43 rfl rfl rfl (Nat.le_of_ble_eq_true rfl) ?_
  refine k_ws (ws2 := (q, .inr (10, [.ref q7, .ref q15, .ref q23, .ref q31, .int 0, .int 0])) :: [(q7, .inl (E.2.2.1 0, 8, .inl (fun _ => 0))), (q15, .inl (E.2.2.1 0, 8, .inl (fun _ => 0))), (q23, .inl (E.2.2.1 0, 8, .inl (fun _ => 0))), (q31, .inl (E.2.2.1 0, 8, .inl (fun _ => 0)))]) rfl ?_
  refine k_iconst (v := 0) hC dX10_init_46 (by decide +kernel) ?_
  refine k_istore (i := 1) (lv2 := [(1, .int 0), (0, .ref q)]) hC dX10_init_47 rfl (by decide) rfl ?_
  exact kW_loop hC hq 8 0 rfl
theorem dX2_init_0 : decode cX2_init 0 = .ok (.aload_n 0, 1) := by decide +kernel
theorem dX2_init_1 : decode cX2_init 1 = .ok (.invokespecial 3, 3) := by decide +kernel
theorem dX2_init_4 : decode cX2_init 4 = .ok (.aload_n 0, 1) := by decide +kernel
theorem dX2_init_5 : decode cX2_init 5 = .ok (.bipush 13, 2) := by decide +kernel
theorem dX2_init_7 : decode cX2_init 7 = .ok (.anewarray 9, 3) := by decide +kernel
theorem dX2_init_10 : decode cX2_init 10 = .ok (.putfield 11, 3) := by decide +kernel
theorem dX2_init_13 : decode cX2_init 13 = .ok (.aload_n 0, 1) := by decide +kernel
theorem dX2_init_14 : decode cX2_init 14 = .ok (.iconst 0, 1) := by decide +kernel
theorem dX2_init_15 : decode cX2_init 15 = .ok (.putfield 15, 3) := by decide +kernel
theorem dX2_init_18 : decode cX2_init 18 = .ok (.aload_n 0, 1) := by decide +kernel
theorem dX2_init_19 : decode cX2_init 19 = .ok (.iconst 0, 1) := by decide +kernel
theorem dX2_init_20 : decode cX2_init 20 = .ok (.putfield 19, 3) := by decide +kernel
theorem dX2_init_23 : decode cX2_init 23 = .ok (.iconst 0, 1) := by decide +kernel
theorem dX2_init_24 : decode cX2_init 24 = .ok (.istore_n 1, 1) := by decide +kernel
theorem dX2_init_25 : decode cX2_init 25 = .ok (.iload_n 1, 1) := by decide +kernel
theorem dX2_init_26 : decode cX2_init 26 = .ok (.bipush 13, 2) := by decide +kernel
theorem dX2_init_28 : decode cX2_init 28 = .ok (.if_icmp .ge 22, 3) := by decide +kernel
theorem dX2_init_31 : decode cX2_init 31 = .ok (.aload_n 0, 1) := by decide +kernel
theorem dX2_init_32 : decode cX2_init 32 = .ok (.getfield 11, 3) := by decide +kernel
theorem dX2_init_35 : decode cX2_init 35 = .ok (.iload_n 1, 1) := by decide +kernel
theorem dX2_init_36 : decode cX2_init 36 = .ok (.new 9, 3) := by decide +kernel
theorem dX2_init_39 : decode cX2_init 39 = .ok (.dup, 1) := by decide +kernel
theorem dX2_init_40 : decode cX2_init 40 = .ok (.invokespecial 22, 3) := by decide +kernel
theorem dX2_init_43 : decode cX2_init 43 = .ok (.aastore, 1) := by decide +kernel
theorem dX2_init_44 : decode cX2_init 44 = .ok (.iinc 1 1, 3) := by decide +kernel
theorem dX2_init_47 : decode cX2_init 47 = .ok (.goto (-22), 3) := by decide +kernel
theorem dX2_init_50 : decode cX2_init 50 = .ok (.return_, 1) := by decide +kernel
theorem kP_loop {E : kE} {Γ : zU} {q a : Nat} (hC : Kx E Γ RX2 cX2_init 2 2 66 507) (hq : kQ E Γ 66 507 (bX2 E q)) : ∀ r i g, i + r = 13 → GC E Γ (1 + 5 * i) (13 + 38 * i) 2 25 [(1, .int (nI i)), (0, .ref q)] [] ((q, .inr (2, [.ref a, .int 0, .int 0])) :: (a, .inl (E.2.2.1 4, 13, .inr (.inr (.inr (.inr (aP i g)))))) :: bPs E i g) := by
  intro r
  induction r with
  | zero =>
    intro i g hi
    have e8 : i = 13 := by omega
    subst e8
    refine k_iload (i := 1) (x := nI 13) hC dX2_init_25 rfl rfl ?_
    refine k_bipush (v := 13) hC dX2_init_26 (by decide +kernel) ?_
    refine k_icmp_ge (tgt := 50) hC dX2_init_28 (by decide) (fun _ => ?_) (fun z => absurd (by decide +kernel) z)
    exact k_vret hC hq (by decide) (by decide) dX2_init_50 (a, g) rfl
  | succ r ih =>
    intro i g hi
    have i13 : i < 13 := by omega
    have hz : zin (nI i) 13 := zinT i13 (by omega)
    refine k_iload (i := 1) (x := nI i) hC dX2_init_25 rfl rfl ?_
    refine k_bipush (v := 13) hC dX2_init_26 (by decide +kernel) ?_
    refine k_icmp_ge (tgt := 50) hC dX2_init_28 (by decide) (fun z => absurd (show nI 13 ≤ nI i from z) (leF i13 (by omega))) (fun _ => ?_)
    refine k_aload (i := 0) (x := q) hC dX2_init_31 rfl rfl ?_
    refine k_get (q0 := 0) hC kf2_11 dX2_init_32 rfl rfl ?_
    refine k_iload (i := 1) (x := nI i) hC dX2_init_35 rfl rfl ?_
    refine k_new (ci := 10) (C := RX10) (T := TX10) (N := 6) (fs := [.null, .null, .null, .null, .int 0, .int 0]) hC uX10 tyX10 tyX10_ok kt_132 kt_96 kt_5 rfl (by decide +kernel) (by omega) (by omega) dX2_init_36 (fun q1 => ?_)
    refine k_dup hC dX2_init_39 rfl ?_
    refine k_init (d' := 1) (mc' := 4) (ms' := 32) [] hC kwX2_22 rfl dX2_init_40 rfl (by decide) (Nat.le_of_ble_eq_true rfl) (by omega) (by omega) (cK10 E q1) (fun f => ?_)
    refine k_astq (q0 := 1) (qk := (((q, .inr (2, [.ref a, .int 0, .int 0])) :: (a, .inl (E.2.2.1 4, 13, .inr (.inr (.inr (.inr (aP i g)))))) :: bPs E i g) : va_W).length) hC dX2_init_43 rfl at_len hz ?_
    refine k_ws (ws2 := (q, .inr (2, [.ref a, .int 0, .int 0])) :: (a, .inl (E.2.2.1 4, 13, .inr (.inr (.inr (.inr (aP (i + 1) (fun j => if j = i then kc q1 f else g j))))))) :: bPs E (i + 1) (fun j => if j = i then kc q1 f else g j)) ?_ ?_
    · show (q, .inr (2, [.ref a, .int 0, .int 0])) :: (a, .inl (E.2.2.1 4, 13, .inr (.inr (.inr (.inr (va_up (aP i g) (nI i).toNatClampNeg (some q1))))))) :: (bPs E i g ++ bX10 E q1 f) = _
      have e1 : va_up (aP i g) (nI i).toNatClampNeg (some q1) = aP (i + 1) (fun j => if j = i then kc q1 f else g j) := by
        rw [nI_clamp (by omega)]
        funext j
        unfold va_up aP
        by_cases z : j = i
        · subst z
          simp only [if_true]
          rw [if_pos (by omega)]; rfl
        · rw [if_neg z]
          by_cases z2 : j < i
          · rw [if_pos z2, if_pos (by omega)]
            show _ = some ((if j = i then kc q1 f else g j) 0)
            rw [if_neg z]
          · rw [if_neg z2, if_neg (by omega)]
      have e2 : bPs E (i + 1) (fun j => if j = i then kc q1 f else g j) = bPs E i g ++ bX10 E q1 f := by
        show bPs E i _ ++ _ = _
        rw [bPs_congr (g' := g) i (fun j hj => by rw [if_neg (by omega)])]
        simp only [if_true]
        rfl
      rw [e1, e2]
    refine k_iinc (x := nI i) (v := nI (i + 1)) (lv2 := [(1, .int (nI (i + 1))), (0, .ref q)]) hC dX2_init_44 rfl (nI_add i 1) (by decide) rfl ?_
    refine k_goto (tgt := 25) hC dX2_init_47 (by decide) ?_
    have := ih (i + 1) (fun j => if j = i then kc q1 f else g j) (by omega)
    rw [show 1 + 5 * (i + 1) = 1 + 5 * i + 1 + 4 by omega, show 13 + 38 * (i + 1) = 13 + 38 * i + 6 + 32 by omega] at this
    exact this
theorem cK2 (E : kE) (q : Nat) : CK E 2 66 507 yX2_init cX2_init 2 [.ref q] [(q, .inr (2, [.null, .int 0, .int 0]))] (bX2 E q) := by
  refine CK.of (by decide) (Nat.le_of_ble_eq_true rfl) (fun Γ hC hI hq => ?_)
  have hC : Kx E Γ RX2 cX2_init 2 2 66 507 := hC
  have hI := hI rfl
  show GC E Γ 0 0 2 0 [(0, .ref q)] [] [(q, .inr (2, [.null, .int 0, .int 0]))]
  refine k_aload (i := 0) (x := q) hC dX2_init_0 rfl rfl ?_
  refine k_objInit hC kt_131 kt_32 kt_33 dX2_init_1 (by decide) ?_
  refine k_aload (i := 0) (x := q) hC dX2_init_4 rfl rfl ?_
  refine k_bipush (v := 13) hC dX2_init_5 (by decide +kernel) ?_
  refine k_newq (N' := 13) hC kt_132 (by decide) (by decide +kernel) (by decide) (by decide) (by decide) dX2_init_7 (fun q7 => ?_)
  refine k_ws (ws2 := (q, .inr (2, [.null, .int 0, .int 0])) :: [(q7, .inl (E.2.2.1 4, 13, .inr (.inr (.inr (.inr (fun _ => none))))))]) rfl ?_
  refine k_put (q0 := 0) (fs := [.null, .int 0, .int 0]) hC hI kf2_11 dX2_init_10 rfl rfl rfl (Nat.le_of_ble_eq_true rfl) ?_
  refine k_ws (ws2 := (q, .inr (2, [.ref q7, .int 0, .int 0])) :: [(q7, .inl (E.2.2.1 4, 13, .inr (.inr (.inr (.inr (fun _ => none))))))]) rfl ?_
  refine k_aload (i := 0) (x := q) hC dX2_init_13 rfl rfl ?_
  refine k_iconst (v := 0) hC dX2_init_14 (by decide +kernel) ?_
  refine k_put (q0 := 0) (fs := [.ref q7, .int 0, .int 0]) hC hI kf2_15 dX2_init_15 rfl rfl rfl (Nat.le_of_ble_eq_true rfl) ?_
  refine k_ws (ws2 := (q, .inr (2, [.ref q7, .int 0, .int 0])) :: [(q7, .inl (E.2.2.1 4, 13, .inr (.inr (.inr (.inr (fun _ => none))))))]) rfl ?_
  refine k_aload (i := 0) (x := q) hC dX2_init_18 rfl rfl ?_
  refine k_iconst (v := 0) hC dX2_init_19 (by decide +kernel) ?_
  refine k_put (q0 := 0) (fs := [.ref q7, .int 0, .int 0]) hC hI kf2_19 dX2_init_20 rfl rfl rfl (Nat.le_of_ble_eq_true rfl) ?_
  refine k_ws (ws2 := (q, .inr (2, [.ref q7, .int 0, .int 0])) :: [(q7, .inl (E.2.2.1 4, 13, .inr (.inr (.inr (.inr (fun _ => none))))))]) rfl ?_
  refine k_iconst (v := 0) hC dX2_init_23 (by decide +kernel) ?_
  refine k_istore (i := 1) (lv2 := [(1, .int 0), (0, .ref q)]) hC dX2_init_24 rfl (by decide) rfl ?_
  refine k_ws (ws2 := (q, .inr (2, [.ref q7, .int 0, .int 0])) :: (q7, .inl (E.2.2.1 4, 13, .inr (.inr (.inr (.inr (aP 0 (fun _ _ => 0))))))) :: bPs E 0 (fun _ _ => 0)) (by unfold aP; simp [bPs]) ?_
  exact kP_loop hC hq 13 0 (fun _ _ => 0) rfl
