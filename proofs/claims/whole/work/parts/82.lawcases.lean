/-! THE LAW'S CASES -/
def RLw : String := "LostByStateLaw"
def lvL (i : Nat) : List (Nat × Value) := [(0, .ref 148), (1, .ref 0), (2, .ref 36), (3, .ref 59), (4, .int (nI i))]
/-- the script lies outside the world, at ad 148 -/
def Scr (E : zE) (Γ : zT) (L : Nat) (xs : Nat → Int32) : Prop := match Γ with
  | (p, e, R, s, m, args, below, meth, c, Q, A, ce, sl) => va_X (E.2.2.2 148) L xs s s.heap ∧ E.2.2.2 148 < s.heap.size ∧ ¬ A (E.2.2.2 148)
theorem g_sld {E : zE} {Γ : zT} {own : String} {cc : ByteArray} {nL d pc L j : Nat} {xs : Nat → Int32} {x : Int32} {lv : List (Nat × Value)} {st : List Value} {M : zM} (h : Cx E Γ own cc nL d) (hs : Scr E Γ L xs) (hd : decode cc pc = .ok (.iaload, 1)) (hx : x = nI j) (hj : j < L) (hL : L ≤ 2560) (k : G E Γ nL (pc + 1) lv (.int (xs j) :: st) M) : G E Γ nL pc lv (.int x :: .ref 148 :: st) M := by
  subst hx
  obtain ⟨p, e, R, s, m, args, below, meth, c1, Q, A, ce, sl⟩ := Γ
  obtain ⟨hx, hb, hml, hown, hts, hK, hA, ⟨hRf, hRl, hRc, hRs⟩, hlk, hN, hX⟩ := h
  intro ls H locs hl hP hD hS
  have hin : vp_in (nI j) L := fun z => by
    rcases z with z | z
    · exact nI_nneg (by omega) z
    · rw [nI_clamp (by omega)] at z; omega
  have := k ls H locs hl hP hD hS
  exact va_sld hx hb hs.1 hs.2.1 hs.2.2 hS hin hd (by rw [nI_clamp (by omega)]; exact this)
theorem g_slen {E : zE} {Γ : zT} {own : String} {cc : ByteArray} {nL d pc L : Nat} {xs : Nat → Int32} {lv : List (Nat × Value)} {st : List Value} {M : zM} (h : Cx E Γ own cc nL d) (hs : Scr E Γ L xs) (hd : decode cc pc = .ok (.arraylength, 1)) (k : G E Γ nL (pc + 1) lv (.int (nI L) :: st) M) : G E Γ nL pc lv (.ref 148 :: st) M := by
  obtain ⟨p, e, R, s, m, args, below, meth, c1, Q, A, ce, sl⟩ := Γ
  obtain ⟨hx, hb, hml, hown, hts, hK, hA, ⟨hRf, hRl, hRc, hRs⟩, hlk, hN, hX⟩ := h
  intro ls H locs hl hP hD hS
  exact va_slen hx hb hs.1 hs.2.1 hs.2.2 hS hd (k ls H locs hl hP hD hS)
theorem ml_1 : (Cond.initialized "LostByState") ∈ zTb := zTb_t 1 (by decide +kernel) (by decide +kernel)
theorem ml_14 : (Cond.initialized "LostByStateModel") ∈ zTb := zTb_t 14 (by decide +kernel) (by decide +kernel)
theorem ml_329 : (Cond.methodLink "LostByStateLaw" (26 : Nat) ({ cls := "LostByState", name := "sign", desc := "(I)I" } : MethodName)) ∈ zTb := zTb_t 329 (by decide +kernel) (by decide +kernel)
theorem ml_330 : (Cond.instanceMethod ({ cls := "LostByState", name := "sign", desc := "(I)I" } : MethodName)) ∈ zTb := zTb_t 330 (by decide +kernel) (by decide +kernel)
theorem ml_331 : (Cond.selects "LostByState" ({ cls := "LostByState", name := "sign", desc := "(I)I" } : MethodName) ({ cls := "LostByState", name := "sign", desc := "(I)I" } : MethodName)) ∈ zTb := zTb_t 331 (by decide +kernel) (by decide +kernel)
theorem ml_332 : (Cond.code ({ cls := "LostByState", name := "sign", desc := "(I)I" } : MethodName) prog_1_method_2_code (2 : Nat) (Option.some FieldType.int)) ∈ zTb := zTb_t 332 (by decide +kernel) (by decide +kernel)
theorem ml_341 : (Cond.methodLink "LostByStateLaw" (31 : Nat) ({ cls := "LostByState", name := "end", desc := "(I)Z" } : MethodName)) ∈ zTb := zTb_t 341 (by decide +kernel) (by decide +kernel)
theorem ml_342 : (Cond.instanceMethod ({ cls := "LostByState", name := "end", desc := "(I)Z" } : MethodName)) ∈ zTb := zTb_t 342 (by decide +kernel) (by decide +kernel)
theorem ml_343 : (Cond.selects "LostByState" ({ cls := "LostByState", name := "end", desc := "(I)Z" } : MethodName) ({ cls := "LostByState", name := "end", desc := "(I)Z" } : MethodName)) ∈ zTb := zTb_t 343 (by decide +kernel) (by decide +kernel)
theorem ml_344 : (Cond.code ({ cls := "LostByState", name := "end", desc := "(I)Z" } : MethodName) prog_1_method_3_code (2 : Nat) (Option.some FieldType.boolean)) ∈ zTb := zTb_t 344 (by decide +kernel) (by decide +kernel)
theorem ml_349 : (Cond.methodLink "LostByStateLaw" (36 : Nat) ({ cls := "LostByState", name := "things", desc := "()I" } : MethodName)) ∈ zTb := zTb_t 349 (by decide +kernel) (by decide +kernel)
theorem ml_350 : (Cond.instanceMethod ({ cls := "LostByState", name := "things", desc := "()I" } : MethodName)) ∈ zTb := zTb_t 350 (by decide +kernel) (by decide +kernel)
theorem ml_351 : (Cond.selects "LostByState" ({ cls := "LostByState", name := "things", desc := "()I" } : MethodName) ({ cls := "LostByState", name := "things", desc := "()I" } : MethodName)) ∈ zTb := zTb_t 351 (by decide +kernel) (by decide +kernel)
theorem ml_352 : (Cond.code ({ cls := "LostByState", name := "things", desc := "()I" } : MethodName) prog_1_method_4_code (2 : Nat) (Option.some FieldType.int)) ∈ zTb := zTb_t 352 (by decide +kernel) (by decide +kernel)
theorem ml_384 : (Cond.methodLink "LostByStateLaw" (41 : Nat) ({ cls := "LostByState", name := "deeds", desc := "()I" } : MethodName)) ∈ zTb := zTb_t 384 (by decide +kernel) (by decide +kernel)
theorem ml_385 : (Cond.instanceMethod ({ cls := "LostByState", name := "deeds", desc := "()I" } : MethodName)) ∈ zTb := zTb_t 385 (by decide +kernel) (by decide +kernel)
theorem ml_386 : (Cond.selects "LostByState" ({ cls := "LostByState", name := "deeds", desc := "()I" } : MethodName) ({ cls := "LostByState", name := "deeds", desc := "()I" } : MethodName)) ∈ zTb := zTb_t 386 (by decide +kernel) (by decide +kernel)
theorem ml_387 : (Cond.code ({ cls := "LostByState", name := "deeds", desc := "()I" } : MethodName) prog_1_method_5_code (2 : Nat) (Option.some FieldType.int)) ∈ zTb := zTb_t 387 (by decide +kernel) (by decide +kernel)
theorem ml_394 : (Cond.methodLink "LostByStateLaw" (45 : Nat) ({ cls := "LostByState", name := "rule", desc := "()I" } : MethodName)) ∈ zTb := zTb_t 394 (by decide +kernel) (by decide +kernel)
theorem ml_395 : (Cond.instanceMethod ({ cls := "LostByState", name := "rule", desc := "()I" } : MethodName)) ∈ zTb := zTb_t 395 (by decide +kernel) (by decide +kernel)
theorem ml_396 : (Cond.selects "LostByState" ({ cls := "LostByState", name := "rule", desc := "()I" } : MethodName) ({ cls := "LostByState", name := "rule", desc := "()I" } : MethodName)) ∈ zTb := zTb_t 396 (by decide +kernel) (by decide +kernel)
theorem ml_397 : (Cond.code ({ cls := "LostByState", name := "rule", desc := "()I" } : MethodName) prog_1_method_6_code (2 : Nat) (Option.some FieldType.int)) ∈ zTb := zTb_t 397 (by decide +kernel) (by decide +kernel)
theorem ml_535 : (Cond.methodLink "LostByStateLaw" (61 : Nat) ({ cls := "LostByState", name := "set", desc := "(II)I" } : MethodName)) ∈ zTb := zTb_t 535 (by decide +kernel) (by decide +kernel)
theorem ml_536 : (Cond.instanceMethod ({ cls := "LostByState", name := "set", desc := "(II)I" } : MethodName)) ∈ zTb := zTb_t 536 (by decide +kernel) (by decide +kernel)
theorem ml_537 : (Cond.selects "LostByState" ({ cls := "LostByState", name := "set", desc := "(II)I" } : MethodName) ({ cls := "LostByState", name := "set", desc := "(II)I" } : MethodName)) ∈ zTb := zTb_t 537 (by decide +kernel) (by decide +kernel)
theorem ml_538 : (Cond.code ({ cls := "LostByState", name := "set", desc := "(II)I" } : MethodName) prog_1_method_9_code (4 : Nat) (Option.some FieldType.int)) ∈ zTb := zTb_t 538 (by decide +kernel) (by decide +kernel)
theorem ml_539 : (Cond.methodLink "LostByStateLaw" (65 : Nat) ({ cls := "LostByState", name := "sheet", desc := "(IIII)I" } : MethodName)) ∈ zTb := zTb_t 539 (by decide +kernel) (by decide +kernel)
theorem ml_540 : (Cond.instanceMethod ({ cls := "LostByState", name := "sheet", desc := "(IIII)I" } : MethodName)) ∈ zTb := zTb_t 540 (by decide +kernel) (by decide +kernel)
theorem ml_541 : (Cond.selects "LostByState" ({ cls := "LostByState", name := "sheet", desc := "(IIII)I" } : MethodName) ({ cls := "LostByState", name := "sheet", desc := "(IIII)I" } : MethodName)) ∈ zTb := zTb_t 541 (by decide +kernel) (by decide +kernel)
theorem ml_542 : (Cond.code ({ cls := "LostByState", name := "sheet", desc := "(IIII)I" } : MethodName) prog_1_method_10_code (10 : Nat) (Option.some FieldType.int)) ∈ zTb := zTb_t 542 (by decide +kernel) (by decide +kernel)
theorem ml_551 : (Cond.methodLink "LostByStateLaw" (70 : Nat) ({ cls := "LostByState", name := "loses", desc := "(II)I" } : MethodName)) ∈ zTb := zTb_t 551 (by decide +kernel) (by decide +kernel)
theorem ml_552 : (Cond.instanceMethod ({ cls := "LostByState", name := "loses", desc := "(II)I" } : MethodName)) ∈ zTb := zTb_t 552 (by decide +kernel) (by decide +kernel)
theorem ml_553 : (Cond.selects "LostByState" ({ cls := "LostByState", name := "loses", desc := "(II)I" } : MethodName) ({ cls := "LostByState", name := "loses", desc := "(II)I" } : MethodName)) ∈ zTb := zTb_t 553 (by decide +kernel) (by decide +kernel)
theorem ml_554 : (Cond.code ({ cls := "LostByState", name := "loses", desc := "(II)I" } : MethodName) prog_1_method_11_code (3 : Nat) (Option.some FieldType.int)) ∈ zTb := zTb_t 554 (by decide +kernel) (by decide +kernel)
theorem ml_665 : (Cond.methodLink "LostByStateLaw" (74 : Nat) ({ cls := "LostByState", name := "finds", desc := "(II)I" } : MethodName)) ∈ zTb := zTb_t 665 (by decide +kernel) (by decide +kernel)
theorem ml_666 : (Cond.instanceMethod ({ cls := "LostByState", name := "finds", desc := "(II)I" } : MethodName)) ∈ zTb := zTb_t 666 (by decide +kernel) (by decide +kernel)
theorem ml_667 : (Cond.selects "LostByState" ({ cls := "LostByState", name := "finds", desc := "(II)I" } : MethodName) ({ cls := "LostByState", name := "finds", desc := "(II)I" } : MethodName)) ∈ zTb := zTb_t 667 (by decide +kernel) (by decide +kernel)
theorem ml_668 : (Cond.code ({ cls := "LostByState", name := "finds", desc := "(II)I" } : MethodName) prog_1_method_12_code (3 : Nat) (Option.some FieldType.int)) ∈ zTb := zTb_t 668 (by decide +kernel) (by decide +kernel)
theorem ml_669 : (Cond.methodLink "LostByStateLaw" (78 : Nat) ({ cls := "LostByState", name := "claim", desc := "(II)I" } : MethodName)) ∈ zTb := zTb_t 669 (by decide +kernel) (by decide +kernel)
theorem ml_670 : (Cond.instanceMethod ({ cls := "LostByState", name := "claim", desc := "(II)I" } : MethodName)) ∈ zTb := zTb_t 670 (by decide +kernel) (by decide +kernel)
theorem ml_671 : (Cond.selects "LostByState" ({ cls := "LostByState", name := "claim", desc := "(II)I" } : MethodName) ({ cls := "LostByState", name := "claim", desc := "(II)I" } : MethodName)) ∈ zTb := zTb_t 671 (by decide +kernel) (by decide +kernel)
theorem ml_672 : (Cond.code ({ cls := "LostByState", name := "claim", desc := "(II)I" } : MethodName) prog_1_method_13_code (3 : Nat) (Option.some FieldType.int)) ∈ zTb := zTb_t 672 (by decide +kernel) (by decide +kernel)
theorem ml_673 : (Cond.methodLink "LostByStateLaw" (82 : Nat) ({ cls := "LostByState", name := "gives", desc := "(II)I" } : MethodName)) ∈ zTb := zTb_t 673 (by decide +kernel) (by decide +kernel)
theorem ml_674 : (Cond.instanceMethod ({ cls := "LostByState", name := "gives", desc := "(II)I" } : MethodName)) ∈ zTb := zTb_t 674 (by decide +kernel) (by decide +kernel)
theorem ml_675 : (Cond.selects "LostByState" ({ cls := "LostByState", name := "gives", desc := "(II)I" } : MethodName) ({ cls := "LostByState", name := "gives", desc := "(II)I" } : MethodName)) ∈ zTb := zTb_t 675 (by decide +kernel) (by decide +kernel)
theorem ml_676 : (Cond.code ({ cls := "LostByState", name := "gives", desc := "(II)I" } : MethodName) prog_1_method_14_code (3 : Nat) (Option.some FieldType.int)) ∈ zTb := zTb_t 676 (by decide +kernel) (by decide +kernel)
theorem ml_677 : (Cond.methodLink "LostByStateLaw" (86 : Nat) ({ cls := "LostByState", name := "days", desc := "(I)I" } : MethodName)) ∈ zTb := zTb_t 677 (by decide +kernel) (by decide +kernel)
theorem ml_678 : (Cond.instanceMethod ({ cls := "LostByState", name := "days", desc := "(I)I" } : MethodName)) ∈ zTb := zTb_t 678 (by decide +kernel) (by decide +kernel)
theorem ml_679 : (Cond.selects "LostByState" ({ cls := "LostByState", name := "days", desc := "(I)I" } : MethodName) ({ cls := "LostByState", name := "days", desc := "(I)I" } : MethodName)) ∈ zTb := zTb_t 679 (by decide +kernel) (by decide +kernel)
theorem ml_680 : (Cond.code ({ cls := "LostByState", name := "days", desc := "(I)I" } : MethodName) prog_1_method_15_code (3 : Nat) (Option.some FieldType.int)) ∈ zTb := zTb_t 680 (by decide +kernel) (by decide +kernel)
theorem ml_697 : (Cond.methodLink "LostByStateLaw" (90 : Nat) ({ cls := "LostByState", name := "year", desc := "()I" } : MethodName)) ∈ zTb := zTb_t 697 (by decide +kernel) (by decide +kernel)
theorem ml_698 : (Cond.instanceMethod ({ cls := "LostByState", name := "year", desc := "()I" } : MethodName)) ∈ zTb := zTb_t 698 (by decide +kernel) (by decide +kernel)
theorem ml_699 : (Cond.selects "LostByState" ({ cls := "LostByState", name := "year", desc := "()I" } : MethodName) ({ cls := "LostByState", name := "year", desc := "()I" } : MethodName)) ∈ zTb := zTb_t 699 (by decide +kernel) (by decide +kernel)
theorem ml_700 : (Cond.code ({ cls := "LostByState", name := "year", desc := "()I" } : MethodName) prog_1_method_16_code (4 : Nat) (Option.some FieldType.int)) ∈ zTb := zTb_t 700 (by decide +kernel) (by decide +kernel)
theorem ml_714 : (Cond.methodLink "LostByStateLaw" (94 : Nat) ({ cls := "LostByState", name := "undo", desc := "()I" } : MethodName)) ∈ zTb := zTb_t 714 (by decide +kernel) (by decide +kernel)
theorem ml_715 : (Cond.instanceMethod ({ cls := "LostByState", name := "undo", desc := "()I" } : MethodName)) ∈ zTb := zTb_t 715 (by decide +kernel) (by decide +kernel)
theorem ml_716 : (Cond.selects "LostByState" ({ cls := "LostByState", name := "undo", desc := "()I" } : MethodName) ({ cls := "LostByState", name := "undo", desc := "()I" } : MethodName)) ∈ zTb := zTb_t 716 (by decide +kernel) (by decide +kernel)
theorem ml_717 : (Cond.code ({ cls := "LostByState", name := "undo", desc := "()I" } : MethodName) prog_1_method_17_code (1 : Nat) (Option.some FieldType.int)) ∈ zTb := zTb_t 717 (by decide +kernel) (by decide +kernel)
theorem ml_722 : (Cond.methodLink "LostByStateLaw" (98 : Nat) ({ cls := "LostByState", name := "match", desc := "(II)I" } : MethodName)) ∈ zTb := zTb_t 722 (by decide +kernel) (by decide +kernel)
theorem ml_723 : (Cond.instanceMethod ({ cls := "LostByState", name := "match", desc := "(II)I" } : MethodName)) ∈ zTb := zTb_t 723 (by decide +kernel) (by decide +kernel)
theorem ml_724 : (Cond.selects "LostByState" ({ cls := "LostByState", name := "match", desc := "(II)I" } : MethodName) ({ cls := "LostByState", name := "match", desc := "(II)I" } : MethodName)) ∈ zTb := zTb_t 724 (by decide +kernel) (by decide +kernel)
theorem ml_725 : (Cond.code ({ cls := "LostByState", name := "match", desc := "(II)I" } : MethodName) prog_1_method_18_code (3 : Nat) (Option.some FieldType.int)) ∈ zTb := zTb_t 725 (by decide +kernel) (by decide +kernel)
theorem ml_729 : (Cond.methodLink "LostByStateLaw" (102 : Nat) ({ cls := "LostByState", name := "gets", desc := "(I)I" } : MethodName)) ∈ zTb := zTb_t 729 (by decide +kernel) (by decide +kernel)
theorem ml_730 : (Cond.instanceMethod ({ cls := "LostByState", name := "gets", desc := "(I)I" } : MethodName)) ∈ zTb := zTb_t 730 (by decide +kernel) (by decide +kernel)
theorem ml_731 : (Cond.selects "LostByState" ({ cls := "LostByState", name := "gets", desc := "(I)I" } : MethodName) ({ cls := "LostByState", name := "gets", desc := "(I)I" } : MethodName)) ∈ zTb := zTb_t 731 (by decide +kernel) (by decide +kernel)
theorem ml_732 : (Cond.code ({ cls := "LostByState", name := "gets", desc := "(I)I" } : MethodName) prog_1_method_19_code (3 : Nat) (Option.some FieldType.int)) ∈ zTb := zTb_t 732 (by decide +kernel) (by decide +kernel)
theorem ml_737 : (Cond.methodLink "LostByStateLaw" (106 : Nat) ({ cls := "LostByState", name := "fewest", desc := "(I)I" } : MethodName)) ∈ zTb := zTb_t 737 (by decide +kernel) (by decide +kernel)
theorem ml_738 : (Cond.instanceMethod ({ cls := "LostByState", name := "fewest", desc := "(I)I" } : MethodName)) ∈ zTb := zTb_t 738 (by decide +kernel) (by decide +kernel)
theorem ml_739 : (Cond.selects "LostByState" ({ cls := "LostByState", name := "fewest", desc := "(I)I" } : MethodName) ({ cls := "LostByState", name := "fewest", desc := "(I)I" } : MethodName)) ∈ zTb := zTb_t 739 (by decide +kernel) (by decide +kernel)
theorem ml_740 : (Cond.code ({ cls := "LostByState", name := "fewest", desc := "(I)I" } : MethodName) prog_1_method_20_code (6 : Nat) (Option.some FieldType.int)) ∈ zTb := zTb_t 740 (by decide +kernel) (by decide +kernel)
theorem ml_759 : (Cond.methodLink "LostByStateLaw" (110 : Nat) ({ cls := "LostByState", name := "ways", desc := "(I)I" } : MethodName)) ∈ zTb := zTb_t 759 (by decide +kernel) (by decide +kernel)
theorem ml_760 : (Cond.instanceMethod ({ cls := "LostByState", name := "ways", desc := "(I)I" } : MethodName)) ∈ zTb := zTb_t 760 (by decide +kernel) (by decide +kernel)
theorem ml_761 : (Cond.selects "LostByState" ({ cls := "LostByState", name := "ways", desc := "(I)I" } : MethodName) ({ cls := "LostByState", name := "ways", desc := "(I)I" } : MethodName)) ∈ zTb := zTb_t 761 (by decide +kernel) (by decide +kernel)
theorem ml_762 : (Cond.code ({ cls := "LostByState", name := "ways", desc := "(I)I" } : MethodName) prog_1_method_21_code (2 : Nat) (Option.some FieldType.int)) ∈ zTb := zTb_t 762 (by decide +kernel) (by decide +kernel)
theorem ml_767 : (Cond.methodLink "LostByStateLaw" (114 : Nat) ({ cls := "LostByState", name := "shares", desc := "()I" } : MethodName)) ∈ zTb := zTb_t 767 (by decide +kernel) (by decide +kernel)
theorem ml_768 : (Cond.instanceMethod ({ cls := "LostByState", name := "shares", desc := "()I" } : MethodName)) ∈ zTb := zTb_t 768 (by decide +kernel) (by decide +kernel)
theorem ml_769 : (Cond.selects "LostByState" ({ cls := "LostByState", name := "shares", desc := "()I" } : MethodName) ({ cls := "LostByState", name := "shares", desc := "()I" } : MethodName)) ∈ zTb := zTb_t 769 (by decide +kernel) (by decide +kernel)
theorem ml_770 : (Cond.code ({ cls := "LostByState", name := "shares", desc := "()I" } : MethodName) prog_1_method_22_code (5 : Nat) (Option.some FieldType.int)) ∈ zTb := zTb_t 770 (by decide +kernel) (by decide +kernel)
theorem ml_796 : (Cond.methodLink "LostByStateLaw" (118 : Nat) ({ cls := "LostByState", name := "until", desc := "(I)I" } : MethodName)) ∈ zTb := zTb_t 796 (by decide +kernel) (by decide +kernel)
theorem ml_797 : (Cond.instanceMethod ({ cls := "LostByState", name := "until", desc := "(I)I" } : MethodName)) ∈ zTb := zTb_t 797 (by decide +kernel) (by decide +kernel)
theorem ml_798 : (Cond.selects "LostByState" ({ cls := "LostByState", name := "until", desc := "(I)I" } : MethodName) ({ cls := "LostByState", name := "until", desc := "(I)I" } : MethodName)) ∈ zTb := zTb_t 798 (by decide +kernel) (by decide +kernel)
theorem ml_799 : (Cond.code ({ cls := "LostByState", name := "until", desc := "(I)I" } : MethodName) prog_1_method_23_code (2 : Nat) (Option.some FieldType.int)) ∈ zTb := zTb_t 799 (by decide +kernel) (by decide +kernel)
theorem ml_805 : (Cond.methodLink "LostByStateLaw" (122 : Nat) ({ cls := "LostByState", name := "later", desc := "(I)I" } : MethodName)) ∈ zTb := zTb_t 805 (by decide +kernel) (by decide +kernel)
theorem ml_806 : (Cond.instanceMethod ({ cls := "LostByState", name := "later", desc := "(I)I" } : MethodName)) ∈ zTb := zTb_t 806 (by decide +kernel) (by decide +kernel)
theorem ml_807 : (Cond.selects "LostByState" ({ cls := "LostByState", name := "later", desc := "(I)I" } : MethodName) ({ cls := "LostByState", name := "later", desc := "(I)I" } : MethodName)) ∈ zTb := zTb_t 807 (by decide +kernel) (by decide +kernel)
theorem ml_808 : (Cond.code ({ cls := "LostByState", name := "later", desc := "(I)I" } : MethodName) prog_1_method_24_code (4 : Nat) (Option.some FieldType.int)) ∈ zTb := zTb_t 808 (by decide +kernel) (by decide +kernel)
theorem ml_810 : (Cond.methodLink "LostByStateLaw" (126 : Nat) ({ cls := "LostByState", name := "advantage", desc := "()I" } : MethodName)) ∈ zTb := zTb_t 810 (by decide +kernel) (by decide +kernel)
theorem ml_811 : (Cond.instanceMethod ({ cls := "LostByState", name := "advantage", desc := "()I" } : MethodName)) ∈ zTb := zTb_t 811 (by decide +kernel) (by decide +kernel)
theorem ml_812 : (Cond.selects "LostByState" ({ cls := "LostByState", name := "advantage", desc := "()I" } : MethodName) ({ cls := "LostByState", name := "advantage", desc := "()I" } : MethodName)) ∈ zTb := zTb_t 812 (by decide +kernel) (by decide +kernel)
theorem ml_813 : (Cond.code ({ cls := "LostByState", name := "advantage", desc := "()I" } : MethodName) prog_1_method_25_code (5 : Nat) (Option.some FieldType.int)) ∈ zTb := zTb_t 813 (by decide +kernel) (by decide +kernel)
theorem ml_819 : (Cond.methodLink "LostByStateLaw" (130 : Nat) ({ cls := "LostByState", name := "soonest", desc := "()I" } : MethodName)) ∈ zTb := zTb_t 819 (by decide +kernel) (by decide +kernel)
theorem ml_820 : (Cond.instanceMethod ({ cls := "LostByState", name := "soonest", desc := "()I" } : MethodName)) ∈ zTb := zTb_t 820 (by decide +kernel) (by decide +kernel)
theorem ml_821 : (Cond.selects "LostByState" ({ cls := "LostByState", name := "soonest", desc := "()I" } : MethodName) ({ cls := "LostByState", name := "soonest", desc := "()I" } : MethodName)) ∈ zTb := zTb_t 821 (by decide +kernel) (by decide +kernel)
theorem ml_822 : (Cond.code ({ cls := "LostByState", name := "soonest", desc := "()I" } : MethodName) prog_1_method_26_code (4 : Nat) (Option.some FieldType.int)) ∈ zTb := zTb_t 822 (by decide +kernel) (by decide +kernel)
theorem ml_823 : (Cond.methodLink "LostByStateLaw" (134 : Nat) ({ cls := "LostByState", name := "confused", desc := "(I)I" } : MethodName)) ∈ zTb := zTb_t 823 (by decide +kernel) (by decide +kernel)
theorem ml_824 : (Cond.instanceMethod ({ cls := "LostByState", name := "confused", desc := "(I)I" } : MethodName)) ∈ zTb := zTb_t 824 (by decide +kernel) (by decide +kernel)
theorem ml_825 : (Cond.selects "LostByState" ({ cls := "LostByState", name := "confused", desc := "(I)I" } : MethodName) ({ cls := "LostByState", name := "confused", desc := "(I)I" } : MethodName)) ∈ zTb := zTb_t 825 (by decide +kernel) (by decide +kernel)
theorem ml_826 : (Cond.code ({ cls := "LostByState", name := "confused", desc := "(I)I" } : MethodName) prog_1_method_27_code (7 : Nat) (Option.some FieldType.int)) ∈ zTb := zTb_t 826 (by decide +kernel) (by decide +kernel)
theorem ml_827 : (Cond.methodLink "LostByStateLaw" (138 : Nat) ({ cls := "LostByState", name := "regains", desc := "(I)I" } : MethodName)) ∈ zTb := zTb_t 827 (by decide +kernel) (by decide +kernel)
theorem ml_828 : (Cond.instanceMethod ({ cls := "LostByState", name := "regains", desc := "(I)I" } : MethodName)) ∈ zTb := zTb_t 828 (by decide +kernel) (by decide +kernel)
theorem ml_829 : (Cond.selects "LostByState" ({ cls := "LostByState", name := "regains", desc := "(I)I" } : MethodName) ({ cls := "LostByState", name := "regains", desc := "(I)I" } : MethodName)) ∈ zTb := zTb_t 829 (by decide +kernel) (by decide +kernel)
theorem ml_830 : (Cond.code ({ cls := "LostByState", name := "regains", desc := "(I)I" } : MethodName) prog_1_method_28_code (6 : Nat) (Option.some FieldType.int)) ∈ zTb := zTb_t 830 (by decide +kernel) (by decide +kernel)
theorem ml_836 : (Cond.methodLink "LostByStateLaw" (142 : Nat) ({ cls := "LostByState", name := "said", desc := "(II)I" } : MethodName)) ∈ zTb := zTb_t 836 (by decide +kernel) (by decide +kernel)
theorem ml_837 : (Cond.instanceMethod ({ cls := "LostByState", name := "said", desc := "(II)I" } : MethodName)) ∈ zTb := zTb_t 837 (by decide +kernel) (by decide +kernel)
theorem ml_838 : (Cond.selects "LostByState" ({ cls := "LostByState", name := "said", desc := "(II)I" } : MethodName) ({ cls := "LostByState", name := "said", desc := "(II)I" } : MethodName)) ∈ zTb := zTb_t 838 (by decide +kernel) (by decide +kernel)
theorem ml_839 : (Cond.code ({ cls := "LostByState", name := "said", desc := "(II)I" } : MethodName) prog_1_method_29_code (3 : Nat) (Option.some FieldType.int)) ∈ zTb := zTb_t 839 (by decide +kernel) (by decide +kernel)
theorem ml_844 : (Cond.methodLink "LostByStateLaw" (146 : Nat) ({ cls := "LostByState", name := "forget", desc := "()I" } : MethodName)) ∈ zTb := zTb_t 844 (by decide +kernel) (by decide +kernel)
theorem ml_845 : (Cond.instanceMethod ({ cls := "LostByState", name := "forget", desc := "()I" } : MethodName)) ∈ zTb := zTb_t 845 (by decide +kernel) (by decide +kernel)
theorem ml_846 : (Cond.selects "LostByState" ({ cls := "LostByState", name := "forget", desc := "()I" } : MethodName) ({ cls := "LostByState", name := "forget", desc := "()I" } : MethodName)) ∈ zTb := zTb_t 846 (by decide +kernel) (by decide +kernel)
theorem ml_847 : (Cond.code ({ cls := "LostByState", name := "forget", desc := "()I" } : MethodName) prog_1_method_30_code (2 : Nat) (Option.some FieldType.int)) ∈ zTb := zTb_t 847 (by decide +kernel) (by decide +kernel)
theorem ml_852 : (Cond.methodLink "LostByStateLaw" (150 : Nat) ({ cls := "LostByState", name := "fits", desc := "()I" } : MethodName)) ∈ zTb := zTb_t 852 (by decide +kernel) (by decide +kernel)
theorem ml_853 : (Cond.instanceMethod ({ cls := "LostByState", name := "fits", desc := "()I" } : MethodName)) ∈ zTb := zTb_t 853 (by decide +kernel) (by decide +kernel)
theorem ml_854 : (Cond.selects "LostByState" ({ cls := "LostByState", name := "fits", desc := "()I" } : MethodName) ({ cls := "LostByState", name := "fits", desc := "()I" } : MethodName)) ∈ zTb := zTb_t 854 (by decide +kernel) (by decide +kernel)
theorem ml_855 : (Cond.code ({ cls := "LostByState", name := "fits", desc := "()I" } : MethodName) prog_1_method_31_code (4 : Nat) (Option.some FieldType.int)) ∈ zTb := zTb_t 855 (by decide +kernel) (by decide +kernel)
theorem ml_865 : (Cond.methodLink "LostByStateLaw" (154 : Nat) ({ cls := "LostByState", name := "ask", desc := "()I" } : MethodName)) ∈ zTb := zTb_t 865 (by decide +kernel) (by decide +kernel)
theorem ml_866 : (Cond.instanceMethod ({ cls := "LostByState", name := "ask", desc := "()I" } : MethodName)) ∈ zTb := zTb_t 866 (by decide +kernel) (by decide +kernel)
theorem ml_867 : (Cond.selects "LostByState" ({ cls := "LostByState", name := "ask", desc := "()I" } : MethodName) ({ cls := "LostByState", name := "ask", desc := "()I" } : MethodName)) ∈ zTb := zTb_t 867 (by decide +kernel) (by decide +kernel)
theorem ml_868 : (Cond.code ({ cls := "LostByState", name := "ask", desc := "()I" } : MethodName) prog_1_method_32_code (8 : Nat) (Option.some FieldType.int)) ∈ zTb := zTb_t 868 (by decide +kernel) (by decide +kernel)
theorem ml_873 : (Cond.methodLink "LostByStateLaw" (158 : Nat) ({ cls := "LostByState", name := "tellsApart", desc := "()I" } : MethodName)) ∈ zTb := zTb_t 873 (by decide +kernel) (by decide +kernel)
theorem ml_874 : (Cond.instanceMethod ({ cls := "LostByState", name := "tellsApart", desc := "()I" } : MethodName)) ∈ zTb := zTb_t 874 (by decide +kernel) (by decide +kernel)
theorem ml_875 : (Cond.selects "LostByState" ({ cls := "LostByState", name := "tellsApart", desc := "()I" } : MethodName) ({ cls := "LostByState", name := "tellsApart", desc := "()I" } : MethodName)) ∈ zTb := zTb_t 875 (by decide +kernel) (by decide +kernel)
theorem ml_876 : (Cond.code ({ cls := "LostByState", name := "tellsApart", desc := "()I" } : MethodName) prog_1_method_33_code (5 : Nat) (Option.some FieldType.int)) ∈ zTb := zTb_t 876 (by decide +kernel) (by decide +kernel)
theorem ml_881 : (Cond.methodLink "LostByStateLaw" (162 : Nat) ({ cls := "LostByState", name := "alike", desc := "()I" } : MethodName)) ∈ zTb := zTb_t 881 (by decide +kernel) (by decide +kernel)
theorem ml_882 : (Cond.instanceMethod ({ cls := "LostByState", name := "alike", desc := "()I" } : MethodName)) ∈ zTb := zTb_t 882 (by decide +kernel) (by decide +kernel)
theorem ml_883 : (Cond.selects "LostByState" ({ cls := "LostByState", name := "alike", desc := "()I" } : MethodName) ({ cls := "LostByState", name := "alike", desc := "()I" } : MethodName)) ∈ zTb := zTb_t 883 (by decide +kernel) (by decide +kernel)
theorem ml_884 : (Cond.code ({ cls := "LostByState", name := "alike", desc := "()I" } : MethodName) prog_1_method_34_code (7 : Nat) (Option.some FieldType.int)) ∈ zTb := zTb_t 884 (by decide +kernel) (by decide +kernel)
theorem ml_885 : (Cond.methodLink "LostByStateLaw" (166 : Nat) ({ cls := "LostByState", name := "looks", desc := "(I)I" } : MethodName)) ∈ zTb := zTb_t 885 (by decide +kernel) (by decide +kernel)
theorem ml_886 : (Cond.instanceMethod ({ cls := "LostByState", name := "looks", desc := "(I)I" } : MethodName)) ∈ zTb := zTb_t 886 (by decide +kernel) (by decide +kernel)
theorem ml_887 : (Cond.selects "LostByState" ({ cls := "LostByState", name := "looks", desc := "(I)I" } : MethodName) ({ cls := "LostByState", name := "looks", desc := "(I)I" } : MethodName)) ∈ zTb := zTb_t 887 (by decide +kernel) (by decide +kernel)
theorem ml_888 : (Cond.code ({ cls := "LostByState", name := "looks", desc := "(I)I" } : MethodName) prog_1_method_35_code (5 : Nat) (Option.some FieldType.int)) ∈ zTb := zTb_t 888 (by decide +kernel) (by decide +kernel)
theorem ml_918 : (Cond.methodLink "LostByStateLaw" (170 : Nat) ({ cls := "LostByState", name := "strays", desc := "(III)I" } : MethodName)) ∈ zTb := zTb_t 918 (by decide +kernel) (by decide +kernel)
theorem ml_919 : (Cond.instanceMethod ({ cls := "LostByState", name := "strays", desc := "(III)I" } : MethodName)) ∈ zTb := zTb_t 919 (by decide +kernel) (by decide +kernel)
theorem ml_920 : (Cond.selects "LostByState" ({ cls := "LostByState", name := "strays", desc := "(III)I" } : MethodName) ({ cls := "LostByState", name := "strays", desc := "(III)I" } : MethodName)) ∈ zTb := zTb_t 920 (by decide +kernel) (by decide +kernel)
theorem ml_921 : (Cond.code ({ cls := "LostByState", name := "strays", desc := "(III)I" } : MethodName) prog_1_method_36_code (10 : Nat) (Option.some FieldType.int)) ∈ zTb := zTb_t 921 (by decide +kernel) (by decide +kernel)
theorem ml_925 : (Cond.methodLink "LostByStateLaw" (175 : Nat) ({ cls := "LostByState", name := "can", desc := "()I" } : MethodName)) ∈ zTb := zTb_t 925 (by decide +kernel) (by decide +kernel)
theorem ml_926 : (Cond.instanceMethod ({ cls := "LostByState", name := "can", desc := "()I" } : MethodName)) ∈ zTb := zTb_t 926 (by decide +kernel) (by decide +kernel)
theorem ml_927 : (Cond.selects "LostByState" ({ cls := "LostByState", name := "can", desc := "()I" } : MethodName) ({ cls := "LostByState", name := "can", desc := "()I" } : MethodName)) ∈ zTb := zTb_t 927 (by decide +kernel) (by decide +kernel)
theorem ml_928 : (Cond.code ({ cls := "LostByState", name := "can", desc := "()I" } : MethodName) prog_1_method_37_code (3 : Nat) (Option.some FieldType.int)) ∈ zTb := zTb_t 928 (by decide +kernel) (by decide +kernel)
theorem ml_933 : (Cond.methodLink "LostByStateLaw" (179 : Nat) ({ cls := "LostByState", name := "with", desc := "(I)I" } : MethodName)) ∈ zTb := zTb_t 933 (by decide +kernel) (by decide +kernel)
theorem ml_934 : (Cond.instanceMethod ({ cls := "LostByState", name := "with", desc := "(I)I" } : MethodName)) ∈ zTb := zTb_t 934 (by decide +kernel) (by decide +kernel)
theorem ml_935 : (Cond.selects "LostByState" ({ cls := "LostByState", name := "with", desc := "(I)I" } : MethodName) ({ cls := "LostByState", name := "with", desc := "(I)I" } : MethodName)) ∈ zTb := zTb_t 935 (by decide +kernel) (by decide +kernel)
theorem ml_936 : (Cond.code ({ cls := "LostByState", name := "with", desc := "(I)I" } : MethodName) prog_1_method_38_code (9 : Nat) (Option.some FieldType.int)) ∈ zTb := zTb_t 936 (by decide +kernel) (by decide +kernel)
theorem ml_937 : (Cond.methodLink "LostByStateLaw" (183 : Nat) ({ cls := "LostByState", name := "weakest", desc := "()I" } : MethodName)) ∈ zTb := zTb_t 937 (by decide +kernel) (by decide +kernel)
theorem ml_938 : (Cond.instanceMethod ({ cls := "LostByState", name := "weakest", desc := "()I" } : MethodName)) ∈ zTb := zTb_t 938 (by decide +kernel) (by decide +kernel)
theorem ml_939 : (Cond.selects "LostByState" ({ cls := "LostByState", name := "weakest", desc := "()I" } : MethodName) ({ cls := "LostByState", name := "weakest", desc := "()I" } : MethodName)) ∈ zTb := zTb_t 939 (by decide +kernel) (by decide +kernel)
theorem ml_940 : (Cond.code ({ cls := "LostByState", name := "weakest", desc := "()I" } : MethodName) prog_1_method_39_code (7 : Nat) (Option.some FieldType.int)) ∈ zTb := zTb_t 940 (by decide +kernel) (by decide +kernel)
theorem ml_945 : (Cond.methodLink "LostByStateLaw" (187 : Nat) ({ cls := "LostByState", name := "worth", desc := "(I)I" } : MethodName)) ∈ zTb := zTb_t 945 (by decide +kernel) (by decide +kernel)
theorem ml_946 : (Cond.instanceMethod ({ cls := "LostByState", name := "worth", desc := "(I)I" } : MethodName)) ∈ zTb := zTb_t 946 (by decide +kernel) (by decide +kernel)
theorem ml_947 : (Cond.selects "LostByState" ({ cls := "LostByState", name := "worth", desc := "(I)I" } : MethodName) ({ cls := "LostByState", name := "worth", desc := "(I)I" } : MethodName)) ∈ zTb := zTb_t 947 (by decide +kernel) (by decide +kernel)
theorem ml_948 : (Cond.code ({ cls := "LostByState", name := "worth", desc := "(I)I" } : MethodName) prog_1_method_40_code (8 : Nat) (Option.some FieldType.int)) ∈ zTb := zTb_t 948 (by decide +kernel) (by decide +kernel)
theorem ml_950 : (Cond.methodLink "LostByStateLaw" (191 : Nat) ({ cls := "LostByState", name := "hangs", desc := "(I)I" } : MethodName)) ∈ zTb := zTb_t 950 (by decide +kernel) (by decide +kernel)
theorem ml_951 : (Cond.instanceMethod ({ cls := "LostByState", name := "hangs", desc := "(I)I" } : MethodName)) ∈ zTb := zTb_t 951 (by decide +kernel) (by decide +kernel)
theorem ml_952 : (Cond.selects "LostByState" ({ cls := "LostByState", name := "hangs", desc := "(I)I" } : MethodName) ({ cls := "LostByState", name := "hangs", desc := "(I)I" } : MethodName)) ∈ zTb := zTb_t 952 (by decide +kernel) (by decide +kernel)
theorem ml_953 : (Cond.code ({ cls := "LostByState", name := "hangs", desc := "(I)I" } : MethodName) prog_1_method_41_code (6 : Nat) (Option.some FieldType.int)) ∈ zTb := zTb_t 953 (by decide +kernel) (by decide +kernel)
theorem ml_954 : (Cond.methodLink "LostByStateLaw" (195 : Nat) ({ cls := "LostByState", name := "likely", desc := "(II)I" } : MethodName)) ∈ zTb := zTb_t 954 (by decide +kernel) (by decide +kernel)
theorem ml_955 : (Cond.instanceMethod ({ cls := "LostByState", name := "likely", desc := "(II)I" } : MethodName)) ∈ zTb := zTb_t 955 (by decide +kernel) (by decide +kernel)
theorem ml_956 : (Cond.selects "LostByState" ({ cls := "LostByState", name := "likely", desc := "(II)I" } : MethodName) ({ cls := "LostByState", name := "likely", desc := "(II)I" } : MethodName)) ∈ zTb := zTb_t 956 (by decide +kernel) (by decide +kernel)
theorem ml_957 : (Cond.code ({ cls := "LostByState", name := "likely", desc := "(II)I" } : MethodName) prog_1_method_42_code (10 : Nat) (Option.some FieldType.int)) ∈ zTb := zTb_t 957 (by decide +kernel) (by decide +kernel)
theorem ml_962 : (Cond.methodLink "LostByStateLaw" (199 : Nat) ({ cls := "LostByState", name := "hatch", desc := "()I" } : MethodName)) ∈ zTb := zTb_t 962 (by decide +kernel) (by decide +kernel)
theorem ml_963 : (Cond.instanceMethod ({ cls := "LostByState", name := "hatch", desc := "()I" } : MethodName)) ∈ zTb := zTb_t 963 (by decide +kernel) (by decide +kernel)
theorem ml_964 : (Cond.selects "LostByState" ({ cls := "LostByState", name := "hatch", desc := "()I" } : MethodName) ({ cls := "LostByState", name := "hatch", desc := "()I" } : MethodName)) ∈ zTb := zTb_t 964 (by decide +kernel) (by decide +kernel)
theorem ml_965 : (Cond.code ({ cls := "LostByState", name := "hatch", desc := "()I" } : MethodName) prog_1_method_43_code (5 : Nat) (Option.some FieldType.int)) ∈ zTb := zTb_t 965 (by decide +kernel) (by decide +kernel)
theorem ml_966 : (Cond.methodLink "LostByStateLaw" (203 : Nat) ({ cls := "LostByState", name := "rests", desc := "(II)I" } : MethodName)) ∈ zTb := zTb_t 966 (by decide +kernel) (by decide +kernel)
theorem ml_967 : (Cond.instanceMethod ({ cls := "LostByState", name := "rests", desc := "(II)I" } : MethodName)) ∈ zTb := zTb_t 967 (by decide +kernel) (by decide +kernel)
theorem ml_968 : (Cond.selects "LostByState" ({ cls := "LostByState", name := "rests", desc := "(II)I" } : MethodName) ({ cls := "LostByState", name := "rests", desc := "(II)I" } : MethodName)) ∈ zTb := zTb_t 968 (by decide +kernel) (by decide +kernel)
theorem ml_969 : (Cond.code ({ cls := "LostByState", name := "rests", desc := "(II)I" } : MethodName) prog_1_method_44_code (6 : Nat) (Option.some FieldType.int)) ∈ zTb := zTb_t 969 (by decide +kernel) (by decide +kernel)
theorem ml_976 : (Cond.methodLink "LostByStateLaw" (207 : Nat) ({ cls := "LostByState", name := "law", desc := "()I" } : MethodName)) ∈ zTb := zTb_t 976 (by decide +kernel) (by decide +kernel)
theorem ml_977 : (Cond.instanceMethod ({ cls := "LostByState", name := "law", desc := "()I" } : MethodName)) ∈ zTb := zTb_t 977 (by decide +kernel) (by decide +kernel)
theorem ml_978 : (Cond.selects "LostByState" ({ cls := "LostByState", name := "law", desc := "()I" } : MethodName) ({ cls := "LostByState", name := "law", desc := "()I" } : MethodName)) ∈ zTb := zTb_t 978 (by decide +kernel) (by decide +kernel)
theorem ml_979 : (Cond.code ({ cls := "LostByState", name := "law", desc := "()I" } : MethodName) prog_1_method_45_code (4 : Nat) (Option.some FieldType.int)) ∈ zTb := zTb_t 979 (by decide +kernel) (by decide +kernel)
theorem ml_980 : (Cond.methodLink "LostByStateLaw" (211 : Nat) ({ cls := "LostByState", name := "years", desc := "(II)I" } : MethodName)) ∈ zTb := zTb_t 980 (by decide +kernel) (by decide +kernel)
theorem ml_981 : (Cond.instanceMethod ({ cls := "LostByState", name := "years", desc := "(II)I" } : MethodName)) ∈ zTb := zTb_t 981 (by decide +kernel) (by decide +kernel)
theorem ml_982 : (Cond.selects "LostByState" ({ cls := "LostByState", name := "years", desc := "(II)I" } : MethodName) ({ cls := "LostByState", name := "years", desc := "(II)I" } : MethodName)) ∈ zTb := zTb_t 982 (by decide +kernel) (by decide +kernel)
theorem ml_983 : (Cond.code ({ cls := "LostByState", name := "years", desc := "(II)I" } : MethodName) prog_1_method_46_code (5 : Nat) (Option.some FieldType.int)) ∈ zTb := zTb_t 983 (by decide +kernel) (by decide +kernel)
theorem ml_993 : (Cond.methodLink "LostByStateLaw" (215 : Nat) ({ cls := "LostByState", name := "keep", desc := "(I)Z" } : MethodName)) ∈ zTb := zTb_t 993 (by decide +kernel) (by decide +kernel)
theorem ml_994 : (Cond.instanceMethod ({ cls := "LostByState", name := "keep", desc := "(I)Z" } : MethodName)) ∈ zTb := zTb_t 994 (by decide +kernel) (by decide +kernel)
theorem ml_995 : (Cond.selects "LostByState" ({ cls := "LostByState", name := "keep", desc := "(I)Z" } : MethodName) ({ cls := "LostByState", name := "keep", desc := "(I)Z" } : MethodName)) ∈ zTb := zTb_t 995 (by decide +kernel) (by decide +kernel)
theorem ml_996 : (Cond.code ({ cls := "LostByState", name := "keep", desc := "(I)Z" } : MethodName) prog_1_method_47_code (2 : Nat) (Option.some FieldType.boolean)) ∈ zTb := zTb_t 996 (by decide +kernel) (by decide +kernel)
theorem ml_997 : (Cond.methodLink "LostByStateLaw" (219 : Nat) ({ cls := "LostByState", name := "again", desc := "(I)Z" } : MethodName)) ∈ zTb := zTb_t 997 (by decide +kernel) (by decide +kernel)
theorem ml_998 : (Cond.instanceMethod ({ cls := "LostByState", name := "again", desc := "(I)Z" } : MethodName)) ∈ zTb := zTb_t 998 (by decide +kernel) (by decide +kernel)
theorem ml_999 : (Cond.selects "LostByState" ({ cls := "LostByState", name := "again", desc := "(I)Z" } : MethodName) ({ cls := "LostByState", name := "again", desc := "(I)Z" } : MethodName)) ∈ zTb := zTb_t 999 (by decide +kernel) (by decide +kernel)
theorem ml_1000 : (Cond.code ({ cls := "LostByState", name := "again", desc := "(I)Z" } : MethodName) prog_1_method_48_code (2 : Nat) (Option.some FieldType.boolean)) ∈ zTb := zTb_t 1000 (by decide +kernel) (by decide +kernel)
theorem ml_1001 : (Cond.methodLink "LostByStateLaw" (223 : Nat) ({ cls := "LostByState", name := "count", desc := "(I)I" } : MethodName)) ∈ zTb := zTb_t 1001 (by decide +kernel) (by decide +kernel)
theorem ml_1002 : (Cond.instanceMethod ({ cls := "LostByState", name := "count", desc := "(I)I" } : MethodName)) ∈ zTb := zTb_t 1002 (by decide +kernel) (by decide +kernel)
theorem ml_1003 : (Cond.selects "LostByState" ({ cls := "LostByState", name := "count", desc := "(I)I" } : MethodName) ({ cls := "LostByState", name := "count", desc := "(I)I" } : MethodName)) ∈ zTb := zTb_t 1003 (by decide +kernel) (by decide +kernel)
theorem ml_1004 : (Cond.code ({ cls := "LostByState", name := "count", desc := "(I)I" } : MethodName) prog_1_method_49_code (2 : Nat) (Option.some FieldType.int)) ∈ zTb := zTb_t 1004 (by decide +kernel) (by decide +kernel)
theorem ml_1230 : (Cond.methodLink "LostByStateLaw" (30 : Nat) ({ cls := "LostByStateModel", name := "sign", desc := "(I)I" } : MethodName)) ∈ zTb := zTb_t 1230 (by decide +kernel) (by decide +kernel)
theorem ml_1231 : (Cond.instanceMethod ({ cls := "LostByStateModel", name := "sign", desc := "(I)I" } : MethodName)) ∈ zTb := zTb_t 1231 (by decide +kernel) (by decide +kernel)
theorem ml_1232 : (Cond.selects "LostByStateModel" ({ cls := "LostByStateModel", name := "sign", desc := "(I)I" } : MethodName) ({ cls := "LostByStateModel", name := "sign", desc := "(I)I" } : MethodName)) ∈ zTb := zTb_t 1232 (by decide +kernel) (by decide +kernel)
theorem ml_1233 : (Cond.code ({ cls := "LostByStateModel", name := "sign", desc := "(I)I" } : MethodName) prog_14_method_11_code (3 : Nat) (Option.some FieldType.int)) ∈ zTb := zTb_t 1233 (by decide +kernel) (by decide +kernel)
theorem ml_1234 : (Cond.methodLink "LostByStateLaw" (35 : Nat) ({ cls := "LostByStateModel", name := "end", desc := "(I)Z" } : MethodName)) ∈ zTb := zTb_t 1234 (by decide +kernel) (by decide +kernel)
theorem ml_1235 : (Cond.instanceMethod ({ cls := "LostByStateModel", name := "end", desc := "(I)Z" } : MethodName)) ∈ zTb := zTb_t 1235 (by decide +kernel) (by decide +kernel)
theorem ml_1236 : (Cond.selects "LostByStateModel" ({ cls := "LostByStateModel", name := "end", desc := "(I)Z" } : MethodName) ({ cls := "LostByStateModel", name := "end", desc := "(I)Z" } : MethodName)) ∈ zTb := zTb_t 1236 (by decide +kernel) (by decide +kernel)
theorem ml_1237 : (Cond.code ({ cls := "LostByStateModel", name := "end", desc := "(I)Z" } : MethodName) prog_14_method_12_code (2 : Nat) (Option.some FieldType.boolean)) ∈ zTb := zTb_t 1237 (by decide +kernel) (by decide +kernel)
theorem ml_1241 : (Cond.methodLink "LostByStateLaw" (40 : Nat) ({ cls := "LostByStateModel", name := "things", desc := "()I" } : MethodName)) ∈ zTb := zTb_t 1241 (by decide +kernel) (by decide +kernel)
theorem ml_1242 : (Cond.instanceMethod ({ cls := "LostByStateModel", name := "things", desc := "()I" } : MethodName)) ∈ zTb := zTb_t 1242 (by decide +kernel) (by decide +kernel)
theorem ml_1243 : (Cond.selects "LostByStateModel" ({ cls := "LostByStateModel", name := "things", desc := "()I" } : MethodName) ({ cls := "LostByStateModel", name := "things", desc := "()I" } : MethodName)) ∈ zTb := zTb_t 1243 (by decide +kernel) (by decide +kernel)
theorem ml_1244 : (Cond.code ({ cls := "LostByStateModel", name := "things", desc := "()I" } : MethodName) prog_14_method_25_code (4 : Nat) (Option.some FieldType.int)) ∈ zTb := zTb_t 1244 (by decide +kernel) (by decide +kernel)
theorem ml_1285 : (Cond.methodLink "LostByStateLaw" (44 : Nat) ({ cls := "LostByStateModel", name := "deeds", desc := "()I" } : MethodName)) ∈ zTb := zTb_t 1285 (by decide +kernel) (by decide +kernel)
theorem ml_1286 : (Cond.instanceMethod ({ cls := "LostByStateModel", name := "deeds", desc := "()I" } : MethodName)) ∈ zTb := zTb_t 1286 (by decide +kernel) (by decide +kernel)
theorem ml_1287 : (Cond.selects "LostByStateModel" ({ cls := "LostByStateModel", name := "deeds", desc := "()I" } : MethodName) ({ cls := "LostByStateModel", name := "deeds", desc := "()I" } : MethodName)) ∈ zTb := zTb_t 1287 (by decide +kernel) (by decide +kernel)
theorem ml_1288 : (Cond.code ({ cls := "LostByStateModel", name := "deeds", desc := "()I" } : MethodName) prog_14_method_26_code (4 : Nat) (Option.some FieldType.int)) ∈ zTb := zTb_t 1288 (by decide +kernel) (by decide +kernel)
theorem ml_1289 : (Cond.methodLink "LostByStateLaw" (48 : Nat) ({ cls := "LostByStateModel", name := "rule", desc := "()I" } : MethodName)) ∈ zTb := zTb_t 1289 (by decide +kernel) (by decide +kernel)
theorem ml_1290 : (Cond.instanceMethod ({ cls := "LostByStateModel", name := "rule", desc := "()I" } : MethodName)) ∈ zTb := zTb_t 1290 (by decide +kernel) (by decide +kernel)
theorem ml_1291 : (Cond.selects "LostByStateModel" ({ cls := "LostByStateModel", name := "rule", desc := "()I" } : MethodName) ({ cls := "LostByStateModel", name := "rule", desc := "()I" } : MethodName)) ∈ zTb := zTb_t 1291 (by decide +kernel) (by decide +kernel)
theorem ml_1292 : (Cond.code ({ cls := "LostByStateModel", name := "rule", desc := "()I" } : MethodName) prog_14_method_33_code (3 : Nat) (Option.some FieldType.int)) ∈ zTb := zTb_t 1292 (by decide +kernel) (by decide +kernel)
theorem ml_1355 : (Cond.methodLink "LostByStateLaw" (64 : Nat) ({ cls := "LostByStateModel", name := "set", desc := "(II)I" } : MethodName)) ∈ zTb := zTb_t 1355 (by decide +kernel) (by decide +kernel)
theorem ml_1356 : (Cond.instanceMethod ({ cls := "LostByStateModel", name := "set", desc := "(II)I" } : MethodName)) ∈ zTb := zTb_t 1356 (by decide +kernel) (by decide +kernel)
theorem ml_1357 : (Cond.selects "LostByStateModel" ({ cls := "LostByStateModel", name := "set", desc := "(II)I" } : MethodName) ({ cls := "LostByStateModel", name := "set", desc := "(II)I" } : MethodName)) ∈ zTb := zTb_t 1357 (by decide +kernel) (by decide +kernel)
theorem ml_1358 : (Cond.code ({ cls := "LostByStateModel", name := "set", desc := "(II)I" } : MethodName) prog_14_method_44_code (4 : Nat) (Option.some FieldType.int)) ∈ zTb := zTb_t 1358 (by decide +kernel) (by decide +kernel)
theorem ml_1359 : (Cond.methodLink "LostByStateLaw" (69 : Nat) ({ cls := "LostByStateModel", name := "sheet", desc := "(IIII)I" } : MethodName)) ∈ zTb := zTb_t 1359 (by decide +kernel) (by decide +kernel)
theorem ml_1360 : (Cond.instanceMethod ({ cls := "LostByStateModel", name := "sheet", desc := "(IIII)I" } : MethodName)) ∈ zTb := zTb_t 1360 (by decide +kernel) (by decide +kernel)
theorem ml_1361 : (Cond.selects "LostByStateModel" ({ cls := "LostByStateModel", name := "sheet", desc := "(IIII)I" } : MethodName) ({ cls := "LostByStateModel", name := "sheet", desc := "(IIII)I" } : MethodName)) ∈ zTb := zTb_t 1361 (by decide +kernel) (by decide +kernel)
theorem ml_1362 : (Cond.code ({ cls := "LostByStateModel", name := "sheet", desc := "(IIII)I" } : MethodName) prog_14_method_45_code (8 : Nat) (Option.some FieldType.int)) ∈ zTb := zTb_t 1362 (by decide +kernel) (by decide +kernel)
theorem ml_1373 : (Cond.methodLink "LostByStateLaw" (73 : Nat) ({ cls := "LostByStateModel", name := "loses", desc := "(II)I" } : MethodName)) ∈ zTb := zTb_t 1373 (by decide +kernel) (by decide +kernel)
theorem ml_1374 : (Cond.instanceMethod ({ cls := "LostByStateModel", name := "loses", desc := "(II)I" } : MethodName)) ∈ zTb := zTb_t 1374 (by decide +kernel) (by decide +kernel)
theorem ml_1375 : (Cond.selects "LostByStateModel" ({ cls := "LostByStateModel", name := "loses", desc := "(II)I" } : MethodName) ({ cls := "LostByStateModel", name := "loses", desc := "(II)I" } : MethodName)) ∈ zTb := zTb_t 1375 (by decide +kernel) (by decide +kernel)
theorem ml_1376 : (Cond.code ({ cls := "LostByStateModel", name := "loses", desc := "(II)I" } : MethodName) prog_14_method_50_code (4 : Nat) (Option.some FieldType.int)) ∈ zTb := zTb_t 1376 (by decide +kernel) (by decide +kernel)
theorem ml_1396 : (Cond.methodLink "LostByStateLaw" (77 : Nat) ({ cls := "LostByStateModel", name := "finds", desc := "(II)I" } : MethodName)) ∈ zTb := zTb_t 1396 (by decide +kernel) (by decide +kernel)
theorem ml_1397 : (Cond.instanceMethod ({ cls := "LostByStateModel", name := "finds", desc := "(II)I" } : MethodName)) ∈ zTb := zTb_t 1397 (by decide +kernel) (by decide +kernel)
theorem ml_1398 : (Cond.selects "LostByStateModel" ({ cls := "LostByStateModel", name := "finds", desc := "(II)I" } : MethodName) ({ cls := "LostByStateModel", name := "finds", desc := "(II)I" } : MethodName)) ∈ zTb := zTb_t 1398 (by decide +kernel) (by decide +kernel)
theorem ml_1399 : (Cond.code ({ cls := "LostByStateModel", name := "finds", desc := "(II)I" } : MethodName) prog_14_method_52_code (4 : Nat) (Option.some FieldType.int)) ∈ zTb := zTb_t 1399 (by decide +kernel) (by decide +kernel)
theorem ml_1404 : (Cond.methodLink "LostByStateLaw" (81 : Nat) ({ cls := "LostByStateModel", name := "claim", desc := "(II)I" } : MethodName)) ∈ zTb := zTb_t 1404 (by decide +kernel) (by decide +kernel)
theorem ml_1405 : (Cond.instanceMethod ({ cls := "LostByStateModel", name := "claim", desc := "(II)I" } : MethodName)) ∈ zTb := zTb_t 1405 (by decide +kernel) (by decide +kernel)
theorem ml_1406 : (Cond.selects "LostByStateModel" ({ cls := "LostByStateModel", name := "claim", desc := "(II)I" } : MethodName) ({ cls := "LostByStateModel", name := "claim", desc := "(II)I" } : MethodName)) ∈ zTb := zTb_t 1406 (by decide +kernel) (by decide +kernel)
theorem ml_1407 : (Cond.code ({ cls := "LostByStateModel", name := "claim", desc := "(II)I" } : MethodName) prog_14_method_55_code (3 : Nat) (Option.some FieldType.int)) ∈ zTb := zTb_t 1407 (by decide +kernel) (by decide +kernel)
theorem ml_1423 : (Cond.methodLink "LostByStateLaw" (85 : Nat) ({ cls := "LostByStateModel", name := "gives", desc := "(II)I" } : MethodName)) ∈ zTb := zTb_t 1423 (by decide +kernel) (by decide +kernel)
theorem ml_1424 : (Cond.instanceMethod ({ cls := "LostByStateModel", name := "gives", desc := "(II)I" } : MethodName)) ∈ zTb := zTb_t 1424 (by decide +kernel) (by decide +kernel)
theorem ml_1425 : (Cond.selects "LostByStateModel" ({ cls := "LostByStateModel", name := "gives", desc := "(II)I" } : MethodName) ({ cls := "LostByStateModel", name := "gives", desc := "(II)I" } : MethodName)) ∈ zTb := zTb_t 1425 (by decide +kernel) (by decide +kernel)
theorem ml_1426 : (Cond.code ({ cls := "LostByStateModel", name := "gives", desc := "(II)I" } : MethodName) prog_14_method_57_code (5 : Nat) (Option.some FieldType.int)) ∈ zTb := zTb_t 1426 (by decide +kernel) (by decide +kernel)
theorem ml_1431 : (Cond.methodLink "LostByStateLaw" (89 : Nat) ({ cls := "LostByStateModel", name := "days", desc := "(I)I" } : MethodName)) ∈ zTb := zTb_t 1431 (by decide +kernel) (by decide +kernel)
theorem ml_1432 : (Cond.instanceMethod ({ cls := "LostByStateModel", name := "days", desc := "(I)I" } : MethodName)) ∈ zTb := zTb_t 1432 (by decide +kernel) (by decide +kernel)
theorem ml_1433 : (Cond.selects "LostByStateModel" ({ cls := "LostByStateModel", name := "days", desc := "(I)I" } : MethodName) ({ cls := "LostByStateModel", name := "days", desc := "(I)I" } : MethodName)) ∈ zTb := zTb_t 1433 (by decide +kernel) (by decide +kernel)
theorem ml_1434 : (Cond.code ({ cls := "LostByStateModel", name := "days", desc := "(I)I" } : MethodName) prog_14_method_60_code (3 : Nat) (Option.some FieldType.int)) ∈ zTb := zTb_t 1434 (by decide +kernel) (by decide +kernel)
theorem ml_1451 : (Cond.methodLink "LostByStateLaw" (93 : Nat) ({ cls := "LostByStateModel", name := "year", desc := "()I" } : MethodName)) ∈ zTb := zTb_t 1451 (by decide +kernel) (by decide +kernel)
theorem ml_1452 : (Cond.instanceMethod ({ cls := "LostByStateModel", name := "year", desc := "()I" } : MethodName)) ∈ zTb := zTb_t 1452 (by decide +kernel) (by decide +kernel)
theorem ml_1453 : (Cond.selects "LostByStateModel" ({ cls := "LostByStateModel", name := "year", desc := "()I" } : MethodName) ({ cls := "LostByStateModel", name := "year", desc := "()I" } : MethodName)) ∈ zTb := zTb_t 1453 (by decide +kernel) (by decide +kernel)
theorem ml_1454 : (Cond.code ({ cls := "LostByStateModel", name := "year", desc := "()I" } : MethodName) prog_14_method_61_code (3 : Nat) (Option.some FieldType.int)) ∈ zTb := zTb_t 1454 (by decide +kernel) (by decide +kernel)
theorem ml_1467 : (Cond.methodLink "LostByStateLaw" (97 : Nat) ({ cls := "LostByStateModel", name := "undo", desc := "()I" } : MethodName)) ∈ zTb := zTb_t 1467 (by decide +kernel) (by decide +kernel)
theorem ml_1468 : (Cond.instanceMethod ({ cls := "LostByStateModel", name := "undo", desc := "()I" } : MethodName)) ∈ zTb := zTb_t 1468 (by decide +kernel) (by decide +kernel)
theorem ml_1469 : (Cond.selects "LostByStateModel" ({ cls := "LostByStateModel", name := "undo", desc := "()I" } : MethodName) ({ cls := "LostByStateModel", name := "undo", desc := "()I" } : MethodName)) ∈ zTb := zTb_t 1469 (by decide +kernel) (by decide +kernel)
theorem ml_1470 : (Cond.code ({ cls := "LostByStateModel", name := "undo", desc := "()I" } : MethodName) prog_14_method_65_code (2 : Nat) (Option.some FieldType.int)) ∈ zTb := zTb_t 1470 (by decide +kernel) (by decide +kernel)
theorem ml_1471 : (Cond.methodLink "LostByStateLaw" (101 : Nat) ({ cls := "LostByStateModel", name := "match", desc := "(II)I" } : MethodName)) ∈ zTb := zTb_t 1471 (by decide +kernel) (by decide +kernel)
theorem ml_1472 : (Cond.instanceMethod ({ cls := "LostByStateModel", name := "match", desc := "(II)I" } : MethodName)) ∈ zTb := zTb_t 1472 (by decide +kernel) (by decide +kernel)
theorem ml_1473 : (Cond.selects "LostByStateModel" ({ cls := "LostByStateModel", name := "match", desc := "(II)I" } : MethodName) ({ cls := "LostByStateModel", name := "match", desc := "(II)I" } : MethodName)) ∈ zTb := zTb_t 1473 (by decide +kernel) (by decide +kernel)
theorem ml_1474 : (Cond.code ({ cls := "LostByStateModel", name := "match", desc := "(II)I" } : MethodName) prog_14_method_66_code (3 : Nat) (Option.some FieldType.int)) ∈ zTb := zTb_t 1474 (by decide +kernel) (by decide +kernel)
theorem ml_1478 : (Cond.methodLink "LostByStateLaw" (105 : Nat) ({ cls := "LostByStateModel", name := "gets", desc := "(I)I" } : MethodName)) ∈ zTb := zTb_t 1478 (by decide +kernel) (by decide +kernel)
theorem ml_1479 : (Cond.instanceMethod ({ cls := "LostByStateModel", name := "gets", desc := "(I)I" } : MethodName)) ∈ zTb := zTb_t 1479 (by decide +kernel) (by decide +kernel)
theorem ml_1480 : (Cond.selects "LostByStateModel" ({ cls := "LostByStateModel", name := "gets", desc := "(I)I" } : MethodName) ({ cls := "LostByStateModel", name := "gets", desc := "(I)I" } : MethodName)) ∈ zTb := zTb_t 1480 (by decide +kernel) (by decide +kernel)
theorem ml_1481 : (Cond.code ({ cls := "LostByStateModel", name := "gets", desc := "(I)I" } : MethodName) prog_14_method_67_code (5 : Nat) (Option.some FieldType.int)) ∈ zTb := zTb_t 1481 (by decide +kernel) (by decide +kernel)
theorem ml_1482 : (Cond.methodLink "LostByStateLaw" (109 : Nat) ({ cls := "LostByStateModel", name := "fewest", desc := "(I)I" } : MethodName)) ∈ zTb := zTb_t 1482 (by decide +kernel) (by decide +kernel)
theorem ml_1483 : (Cond.instanceMethod ({ cls := "LostByStateModel", name := "fewest", desc := "(I)I" } : MethodName)) ∈ zTb := zTb_t 1483 (by decide +kernel) (by decide +kernel)
theorem ml_1484 : (Cond.selects "LostByStateModel" ({ cls := "LostByStateModel", name := "fewest", desc := "(I)I" } : MethodName) ({ cls := "LostByStateModel", name := "fewest", desc := "(I)I" } : MethodName)) ∈ zTb := zTb_t 1484 (by decide +kernel) (by decide +kernel)
theorem ml_1485 : (Cond.code ({ cls := "LostByStateModel", name := "fewest", desc := "(I)I" } : MethodName) prog_14_method_68_code (4 : Nat) (Option.some FieldType.int)) ∈ zTb := zTb_t 1485 (by decide +kernel) (by decide +kernel)
theorem ml_1486 : (Cond.methodLink "LostByStateLaw" (113 : Nat) ({ cls := "LostByStateModel", name := "ways", desc := "(I)I" } : MethodName)) ∈ zTb := zTb_t 1486 (by decide +kernel) (by decide +kernel)
theorem ml_1487 : (Cond.instanceMethod ({ cls := "LostByStateModel", name := "ways", desc := "(I)I" } : MethodName)) ∈ zTb := zTb_t 1487 (by decide +kernel) (by decide +kernel)
theorem ml_1488 : (Cond.selects "LostByStateModel" ({ cls := "LostByStateModel", name := "ways", desc := "(I)I" } : MethodName) ({ cls := "LostByStateModel", name := "ways", desc := "(I)I" } : MethodName)) ∈ zTb := zTb_t 1488 (by decide +kernel) (by decide +kernel)
theorem ml_1489 : (Cond.code ({ cls := "LostByStateModel", name := "ways", desc := "(I)I" } : MethodName) prog_14_method_69_code (6 : Nat) (Option.some FieldType.int)) ∈ zTb := zTb_t 1489 (by decide +kernel) (by decide +kernel)
theorem ml_1490 : (Cond.methodLink "LostByStateLaw" (117 : Nat) ({ cls := "LostByStateModel", name := "shares", desc := "()I" } : MethodName)) ∈ zTb := zTb_t 1490 (by decide +kernel) (by decide +kernel)
theorem ml_1491 : (Cond.instanceMethod ({ cls := "LostByStateModel", name := "shares", desc := "()I" } : MethodName)) ∈ zTb := zTb_t 1491 (by decide +kernel) (by decide +kernel)
theorem ml_1492 : (Cond.selects "LostByStateModel" ({ cls := "LostByStateModel", name := "shares", desc := "()I" } : MethodName) ({ cls := "LostByStateModel", name := "shares", desc := "()I" } : MethodName)) ∈ zTb := zTb_t 1492 (by decide +kernel) (by decide +kernel)
theorem ml_1493 : (Cond.code ({ cls := "LostByStateModel", name := "shares", desc := "()I" } : MethodName) prog_14_method_71_code (8 : Nat) (Option.some FieldType.int)) ∈ zTb := zTb_t 1493 (by decide +kernel) (by decide +kernel)
theorem ml_1498 : (Cond.methodLink "LostByStateLaw" (121 : Nat) ({ cls := "LostByStateModel", name := "until", desc := "(I)I" } : MethodName)) ∈ zTb := zTb_t 1498 (by decide +kernel) (by decide +kernel)
theorem ml_1499 : (Cond.instanceMethod ({ cls := "LostByStateModel", name := "until", desc := "(I)I" } : MethodName)) ∈ zTb := zTb_t 1499 (by decide +kernel) (by decide +kernel)
theorem ml_1500 : (Cond.selects "LostByStateModel" ({ cls := "LostByStateModel", name := "until", desc := "(I)I" } : MethodName) ({ cls := "LostByStateModel", name := "until", desc := "(I)I" } : MethodName)) ∈ zTb := zTb_t 1500 (by decide +kernel) (by decide +kernel)
theorem ml_1501 : (Cond.code ({ cls := "LostByStateModel", name := "until", desc := "(I)I" } : MethodName) prog_14_method_73_code (2 : Nat) (Option.some FieldType.int)) ∈ zTb := zTb_t 1501 (by decide +kernel) (by decide +kernel)
theorem ml_1506 : (Cond.methodLink "LostByStateLaw" (125 : Nat) ({ cls := "LostByStateModel", name := "later", desc := "(I)I" } : MethodName)) ∈ zTb := zTb_t 1506 (by decide +kernel) (by decide +kernel)
theorem ml_1507 : (Cond.instanceMethod ({ cls := "LostByStateModel", name := "later", desc := "(I)I" } : MethodName)) ∈ zTb := zTb_t 1507 (by decide +kernel) (by decide +kernel)
theorem ml_1508 : (Cond.selects "LostByStateModel" ({ cls := "LostByStateModel", name := "later", desc := "(I)I" } : MethodName) ({ cls := "LostByStateModel", name := "later", desc := "(I)I" } : MethodName)) ∈ zTb := zTb_t 1508 (by decide +kernel) (by decide +kernel)
theorem ml_1509 : (Cond.code ({ cls := "LostByStateModel", name := "later", desc := "(I)I" } : MethodName) prog_14_method_74_code (4 : Nat) (Option.some FieldType.int)) ∈ zTb := zTb_t 1509 (by decide +kernel) (by decide +kernel)
theorem ml_1510 : (Cond.methodLink "LostByStateLaw" (129 : Nat) ({ cls := "LostByStateModel", name := "advantage", desc := "()I" } : MethodName)) ∈ zTb := zTb_t 1510 (by decide +kernel) (by decide +kernel)
theorem ml_1511 : (Cond.instanceMethod ({ cls := "LostByStateModel", name := "advantage", desc := "()I" } : MethodName)) ∈ zTb := zTb_t 1511 (by decide +kernel) (by decide +kernel)
theorem ml_1512 : (Cond.selects "LostByStateModel" ({ cls := "LostByStateModel", name := "advantage", desc := "()I" } : MethodName) ({ cls := "LostByStateModel", name := "advantage", desc := "()I" } : MethodName)) ∈ zTb := zTb_t 1512 (by decide +kernel) (by decide +kernel)
theorem ml_1513 : (Cond.code ({ cls := "LostByStateModel", name := "advantage", desc := "()I" } : MethodName) prog_14_method_75_code (3 : Nat) (Option.some FieldType.int)) ∈ zTb := zTb_t 1513 (by decide +kernel) (by decide +kernel)
theorem ml_1514 : (Cond.methodLink "LostByStateLaw" (133 : Nat) ({ cls := "LostByStateModel", name := "soonest", desc := "()I" } : MethodName)) ∈ zTb := zTb_t 1514 (by decide +kernel) (by decide +kernel)
theorem ml_1515 : (Cond.instanceMethod ({ cls := "LostByStateModel", name := "soonest", desc := "()I" } : MethodName)) ∈ zTb := zTb_t 1515 (by decide +kernel) (by decide +kernel)
theorem ml_1516 : (Cond.selects "LostByStateModel" ({ cls := "LostByStateModel", name := "soonest", desc := "()I" } : MethodName) ({ cls := "LostByStateModel", name := "soonest", desc := "()I" } : MethodName)) ∈ zTb := zTb_t 1516 (by decide +kernel) (by decide +kernel)
theorem ml_1517 : (Cond.code ({ cls := "LostByStateModel", name := "soonest", desc := "()I" } : MethodName) prog_14_method_76_code (3 : Nat) (Option.some FieldType.int)) ∈ zTb := zTb_t 1517 (by decide +kernel) (by decide +kernel)
theorem ml_1518 : (Cond.methodLink "LostByStateLaw" (137 : Nat) ({ cls := "LostByStateModel", name := "confused", desc := "(I)I" } : MethodName)) ∈ zTb := zTb_t 1518 (by decide +kernel) (by decide +kernel)
theorem ml_1519 : (Cond.instanceMethod ({ cls := "LostByStateModel", name := "confused", desc := "(I)I" } : MethodName)) ∈ zTb := zTb_t 1519 (by decide +kernel) (by decide +kernel)
theorem ml_1520 : (Cond.selects "LostByStateModel" ({ cls := "LostByStateModel", name := "confused", desc := "(I)I" } : MethodName) ({ cls := "LostByStateModel", name := "confused", desc := "(I)I" } : MethodName)) ∈ zTb := zTb_t 1520 (by decide +kernel) (by decide +kernel)
theorem ml_1521 : (Cond.code ({ cls := "LostByStateModel", name := "confused", desc := "(I)I" } : MethodName) prog_14_method_77_code (4 : Nat) (Option.some FieldType.int)) ∈ zTb := zTb_t 1521 (by decide +kernel) (by decide +kernel)
theorem ml_1522 : (Cond.methodLink "LostByStateLaw" (141 : Nat) ({ cls := "LostByStateModel", name := "regains", desc := "(I)I" } : MethodName)) ∈ zTb := zTb_t 1522 (by decide +kernel) (by decide +kernel)
theorem ml_1523 : (Cond.instanceMethod ({ cls := "LostByStateModel", name := "regains", desc := "(I)I" } : MethodName)) ∈ zTb := zTb_t 1523 (by decide +kernel) (by decide +kernel)
theorem ml_1524 : (Cond.selects "LostByStateModel" ({ cls := "LostByStateModel", name := "regains", desc := "(I)I" } : MethodName) ({ cls := "LostByStateModel", name := "regains", desc := "(I)I" } : MethodName)) ∈ zTb := zTb_t 1524 (by decide +kernel) (by decide +kernel)
theorem ml_1525 : (Cond.code ({ cls := "LostByStateModel", name := "regains", desc := "(I)I" } : MethodName) prog_14_method_78_code (2 : Nat) (Option.some FieldType.int)) ∈ zTb := zTb_t 1525 (by decide +kernel) (by decide +kernel)
theorem ml_1530 : (Cond.methodLink "LostByStateLaw" (145 : Nat) ({ cls := "LostByStateModel", name := "said", desc := "(II)I" } : MethodName)) ∈ zTb := zTb_t 1530 (by decide +kernel) (by decide +kernel)
theorem ml_1531 : (Cond.instanceMethod ({ cls := "LostByStateModel", name := "said", desc := "(II)I" } : MethodName)) ∈ zTb := zTb_t 1531 (by decide +kernel) (by decide +kernel)
theorem ml_1532 : (Cond.selects "LostByStateModel" ({ cls := "LostByStateModel", name := "said", desc := "(II)I" } : MethodName) ({ cls := "LostByStateModel", name := "said", desc := "(II)I" } : MethodName)) ∈ zTb := zTb_t 1532 (by decide +kernel) (by decide +kernel)
theorem ml_1533 : (Cond.code ({ cls := "LostByStateModel", name := "said", desc := "(II)I" } : MethodName) prog_14_method_79_code (3 : Nat) (Option.some FieldType.int)) ∈ zTb := zTb_t 1533 (by decide +kernel) (by decide +kernel)
theorem ml_1534 : (Cond.methodLink "LostByStateLaw" (149 : Nat) ({ cls := "LostByStateModel", name := "forget", desc := "()I" } : MethodName)) ∈ zTb := zTb_t 1534 (by decide +kernel) (by decide +kernel)
theorem ml_1535 : (Cond.instanceMethod ({ cls := "LostByStateModel", name := "forget", desc := "()I" } : MethodName)) ∈ zTb := zTb_t 1535 (by decide +kernel) (by decide +kernel)
theorem ml_1536 : (Cond.selects "LostByStateModel" ({ cls := "LostByStateModel", name := "forget", desc := "()I" } : MethodName) ({ cls := "LostByStateModel", name := "forget", desc := "()I" } : MethodName)) ∈ zTb := zTb_t 1536 (by decide +kernel) (by decide +kernel)
theorem ml_1537 : (Cond.code ({ cls := "LostByStateModel", name := "forget", desc := "()I" } : MethodName) prog_14_method_80_code (2 : Nat) (Option.some FieldType.int)) ∈ zTb := zTb_t 1537 (by decide +kernel) (by decide +kernel)
theorem ml_1538 : (Cond.methodLink "LostByStateLaw" (153 : Nat) ({ cls := "LostByStateModel", name := "fits", desc := "()I" } : MethodName)) ∈ zTb := zTb_t 1538 (by decide +kernel) (by decide +kernel)
theorem ml_1539 : (Cond.instanceMethod ({ cls := "LostByStateModel", name := "fits", desc := "()I" } : MethodName)) ∈ zTb := zTb_t 1539 (by decide +kernel) (by decide +kernel)
theorem ml_1540 : (Cond.selects "LostByStateModel" ({ cls := "LostByStateModel", name := "fits", desc := "()I" } : MethodName) ({ cls := "LostByStateModel", name := "fits", desc := "()I" } : MethodName)) ∈ zTb := zTb_t 1540 (by decide +kernel) (by decide +kernel)
theorem ml_1541 : (Cond.code ({ cls := "LostByStateModel", name := "fits", desc := "()I" } : MethodName) prog_14_method_82_code (4 : Nat) (Option.some FieldType.int)) ∈ zTb := zTb_t 1541 (by decide +kernel) (by decide +kernel)
theorem ml_1546 : (Cond.methodLink "LostByStateLaw" (157 : Nat) ({ cls := "LostByStateModel", name := "ask", desc := "()I" } : MethodName)) ∈ zTb := zTb_t 1546 (by decide +kernel) (by decide +kernel)
theorem ml_1547 : (Cond.instanceMethod ({ cls := "LostByStateModel", name := "ask", desc := "()I" } : MethodName)) ∈ zTb := zTb_t 1547 (by decide +kernel) (by decide +kernel)
theorem ml_1548 : (Cond.selects "LostByStateModel" ({ cls := "LostByStateModel", name := "ask", desc := "()I" } : MethodName) ({ cls := "LostByStateModel", name := "ask", desc := "()I" } : MethodName)) ∈ zTb := zTb_t 1548 (by decide +kernel) (by decide +kernel)
theorem ml_1549 : (Cond.code ({ cls := "LostByStateModel", name := "ask", desc := "()I" } : MethodName) prog_14_method_83_code (7 : Nat) (Option.some FieldType.int)) ∈ zTb := zTb_t 1549 (by decide +kernel) (by decide +kernel)
theorem ml_1551 : (Cond.methodLink "LostByStateLaw" (161 : Nat) ({ cls := "LostByStateModel", name := "tellsApart", desc := "()I" } : MethodName)) ∈ zTb := zTb_t 1551 (by decide +kernel) (by decide +kernel)
theorem ml_1552 : (Cond.instanceMethod ({ cls := "LostByStateModel", name := "tellsApart", desc := "()I" } : MethodName)) ∈ zTb := zTb_t 1552 (by decide +kernel) (by decide +kernel)
theorem ml_1553 : (Cond.selects "LostByStateModel" ({ cls := "LostByStateModel", name := "tellsApart", desc := "()I" } : MethodName) ({ cls := "LostByStateModel", name := "tellsApart", desc := "()I" } : MethodName)) ∈ zTb := zTb_t 1553 (by decide +kernel) (by decide +kernel)
theorem ml_1554 : (Cond.code ({ cls := "LostByStateModel", name := "tellsApart", desc := "()I" } : MethodName) prog_14_method_85_code (3 : Nat) (Option.some FieldType.int)) ∈ zTb := zTb_t 1554 (by decide +kernel) (by decide +kernel)
theorem ml_1559 : (Cond.methodLink "LostByStateLaw" (165 : Nat) ({ cls := "LostByStateModel", name := "alike", desc := "()I" } : MethodName)) ∈ zTb := zTb_t 1559 (by decide +kernel) (by decide +kernel)
theorem ml_1560 : (Cond.instanceMethod ({ cls := "LostByStateModel", name := "alike", desc := "()I" } : MethodName)) ∈ zTb := zTb_t 1560 (by decide +kernel) (by decide +kernel)
theorem ml_1561 : (Cond.selects "LostByStateModel" ({ cls := "LostByStateModel", name := "alike", desc := "()I" } : MethodName) ({ cls := "LostByStateModel", name := "alike", desc := "()I" } : MethodName)) ∈ zTb := zTb_t 1561 (by decide +kernel) (by decide +kernel)
theorem ml_1562 : (Cond.code ({ cls := "LostByStateModel", name := "alike", desc := "()I" } : MethodName) prog_14_method_86_code (7 : Nat) (Option.some FieldType.int)) ∈ zTb := zTb_t 1562 (by decide +kernel) (by decide +kernel)
theorem ml_1563 : (Cond.methodLink "LostByStateLaw" (169 : Nat) ({ cls := "LostByStateModel", name := "looks", desc := "(I)I" } : MethodName)) ∈ zTb := zTb_t 1563 (by decide +kernel) (by decide +kernel)
theorem ml_1564 : (Cond.instanceMethod ({ cls := "LostByStateModel", name := "looks", desc := "(I)I" } : MethodName)) ∈ zTb := zTb_t 1564 (by decide +kernel) (by decide +kernel)
theorem ml_1565 : (Cond.selects "LostByStateModel" ({ cls := "LostByStateModel", name := "looks", desc := "(I)I" } : MethodName) ({ cls := "LostByStateModel", name := "looks", desc := "(I)I" } : MethodName)) ∈ zTb := zTb_t 1565 (by decide +kernel) (by decide +kernel)
theorem ml_1566 : (Cond.code ({ cls := "LostByStateModel", name := "looks", desc := "(I)I" } : MethodName) prog_14_method_89_code (9 : Nat) (Option.some FieldType.int)) ∈ zTb := zTb_t 1566 (by decide +kernel) (by decide +kernel)
theorem ml_1576 : (Cond.methodLink "LostByStateLaw" (174 : Nat) ({ cls := "LostByStateModel", name := "strays", desc := "(III)I" } : MethodName)) ∈ zTb := zTb_t 1576 (by decide +kernel) (by decide +kernel)
theorem ml_1577 : (Cond.instanceMethod ({ cls := "LostByStateModel", name := "strays", desc := "(III)I" } : MethodName)) ∈ zTb := zTb_t 1577 (by decide +kernel) (by decide +kernel)
theorem ml_1578 : (Cond.selects "LostByStateModel" ({ cls := "LostByStateModel", name := "strays", desc := "(III)I" } : MethodName) ({ cls := "LostByStateModel", name := "strays", desc := "(III)I" } : MethodName)) ∈ zTb := zTb_t 1578 (by decide +kernel) (by decide +kernel)
theorem ml_1579 : (Cond.code ({ cls := "LostByStateModel", name := "strays", desc := "(III)I" } : MethodName) prog_14_method_90_code (6 : Nat) (Option.some FieldType.int)) ∈ zTb := zTb_t 1579 (by decide +kernel) (by decide +kernel)
theorem ml_1580 : (Cond.methodLink "LostByStateLaw" (178 : Nat) ({ cls := "LostByStateModel", name := "can", desc := "()I" } : MethodName)) ∈ zTb := zTb_t 1580 (by decide +kernel) (by decide +kernel)
theorem ml_1581 : (Cond.instanceMethod ({ cls := "LostByStateModel", name := "can", desc := "()I" } : MethodName)) ∈ zTb := zTb_t 1581 (by decide +kernel) (by decide +kernel)
theorem ml_1582 : (Cond.selects "LostByStateModel" ({ cls := "LostByStateModel", name := "can", desc := "()I" } : MethodName) ({ cls := "LostByStateModel", name := "can", desc := "()I" } : MethodName)) ∈ zTb := zTb_t 1582 (by decide +kernel) (by decide +kernel)
theorem ml_1583 : (Cond.code ({ cls := "LostByStateModel", name := "can", desc := "()I" } : MethodName) prog_14_method_92_code (2 : Nat) (Option.some FieldType.int)) ∈ zTb := zTb_t 1583 (by decide +kernel) (by decide +kernel)
theorem ml_1588 : (Cond.methodLink "LostByStateLaw" (182 : Nat) ({ cls := "LostByStateModel", name := "with", desc := "(I)I" } : MethodName)) ∈ zTb := zTb_t 1588 (by decide +kernel) (by decide +kernel)
theorem ml_1589 : (Cond.instanceMethod ({ cls := "LostByStateModel", name := "with", desc := "(I)I" } : MethodName)) ∈ zTb := zTb_t 1589 (by decide +kernel) (by decide +kernel)
theorem ml_1590 : (Cond.selects "LostByStateModel" ({ cls := "LostByStateModel", name := "with", desc := "(I)I" } : MethodName) ({ cls := "LostByStateModel", name := "with", desc := "(I)I" } : MethodName)) ∈ zTb := zTb_t 1590 (by decide +kernel) (by decide +kernel)
theorem ml_1591 : (Cond.code ({ cls := "LostByStateModel", name := "with", desc := "(I)I" } : MethodName) prog_14_method_93_code (7 : Nat) (Option.some FieldType.int)) ∈ zTb := zTb_t 1591 (by decide +kernel) (by decide +kernel)
theorem ml_1592 : (Cond.methodLink "LostByStateLaw" (186 : Nat) ({ cls := "LostByStateModel", name := "weakest", desc := "()I" } : MethodName)) ∈ zTb := zTb_t 1592 (by decide +kernel) (by decide +kernel)
theorem ml_1593 : (Cond.instanceMethod ({ cls := "LostByStateModel", name := "weakest", desc := "()I" } : MethodName)) ∈ zTb := zTb_t 1593 (by decide +kernel) (by decide +kernel)
theorem ml_1594 : (Cond.selects "LostByStateModel" ({ cls := "LostByStateModel", name := "weakest", desc := "()I" } : MethodName) ({ cls := "LostByStateModel", name := "weakest", desc := "()I" } : MethodName)) ∈ zTb := zTb_t 1594 (by decide +kernel) (by decide +kernel)
theorem ml_1595 : (Cond.code ({ cls := "LostByStateModel", name := "weakest", desc := "()I" } : MethodName) prog_14_method_94_code (6 : Nat) (Option.some FieldType.int)) ∈ zTb := zTb_t 1595 (by decide +kernel) (by decide +kernel)
theorem ml_1596 : (Cond.methodLink "LostByStateLaw" (190 : Nat) ({ cls := "LostByStateModel", name := "worth", desc := "(I)I" } : MethodName)) ∈ zTb := zTb_t 1596 (by decide +kernel) (by decide +kernel)
theorem ml_1597 : (Cond.instanceMethod ({ cls := "LostByStateModel", name := "worth", desc := "(I)I" } : MethodName)) ∈ zTb := zTb_t 1597 (by decide +kernel) (by decide +kernel)
theorem ml_1598 : (Cond.selects "LostByStateModel" ({ cls := "LostByStateModel", name := "worth", desc := "(I)I" } : MethodName) ({ cls := "LostByStateModel", name := "worth", desc := "(I)I" } : MethodName)) ∈ zTb := zTb_t 1598 (by decide +kernel) (by decide +kernel)
theorem ml_1599 : (Cond.code ({ cls := "LostByStateModel", name := "worth", desc := "(I)I" } : MethodName) prog_14_method_95_code (4 : Nat) (Option.some FieldType.int)) ∈ zTb := zTb_t 1599 (by decide +kernel) (by decide +kernel)
theorem ml_1601 : (Cond.methodLink "LostByStateLaw" (194 : Nat) ({ cls := "LostByStateModel", name := "hangs", desc := "(I)I" } : MethodName)) ∈ zTb := zTb_t 1601 (by decide +kernel) (by decide +kernel)
theorem ml_1602 : (Cond.instanceMethod ({ cls := "LostByStateModel", name := "hangs", desc := "(I)I" } : MethodName)) ∈ zTb := zTb_t 1602 (by decide +kernel) (by decide +kernel)
theorem ml_1603 : (Cond.selects "LostByStateModel" ({ cls := "LostByStateModel", name := "hangs", desc := "(I)I" } : MethodName) ({ cls := "LostByStateModel", name := "hangs", desc := "(I)I" } : MethodName)) ∈ zTb := zTb_t 1603 (by decide +kernel) (by decide +kernel)
theorem ml_1604 : (Cond.code ({ cls := "LostByStateModel", name := "hangs", desc := "(I)I" } : MethodName) prog_14_method_96_code (6 : Nat) (Option.some FieldType.int)) ∈ zTb := zTb_t 1604 (by decide +kernel) (by decide +kernel)
theorem ml_1605 : (Cond.methodLink "LostByStateLaw" (198 : Nat) ({ cls := "LostByStateModel", name := "likely", desc := "(II)I" } : MethodName)) ∈ zTb := zTb_t 1605 (by decide +kernel) (by decide +kernel)
theorem ml_1606 : (Cond.instanceMethod ({ cls := "LostByStateModel", name := "likely", desc := "(II)I" } : MethodName)) ∈ zTb := zTb_t 1606 (by decide +kernel) (by decide +kernel)
theorem ml_1607 : (Cond.selects "LostByStateModel" ({ cls := "LostByStateModel", name := "likely", desc := "(II)I" } : MethodName) ({ cls := "LostByStateModel", name := "likely", desc := "(II)I" } : MethodName)) ∈ zTb := zTb_t 1607 (by decide +kernel) (by decide +kernel)
theorem ml_1608 : (Cond.code ({ cls := "LostByStateModel", name := "likely", desc := "(II)I" } : MethodName) prog_14_method_98_code (8 : Nat) (Option.some FieldType.int)) ∈ zTb := zTb_t 1608 (by decide +kernel) (by decide +kernel)
theorem ml_1613 : (Cond.methodLink "LostByStateLaw" (202 : Nat) ({ cls := "LostByStateModel", name := "hatch", desc := "()I" } : MethodName)) ∈ zTb := zTb_t 1613 (by decide +kernel) (by decide +kernel)
theorem ml_1614 : (Cond.instanceMethod ({ cls := "LostByStateModel", name := "hatch", desc := "()I" } : MethodName)) ∈ zTb := zTb_t 1614 (by decide +kernel) (by decide +kernel)
theorem ml_1615 : (Cond.selects "LostByStateModel" ({ cls := "LostByStateModel", name := "hatch", desc := "()I" } : MethodName) ({ cls := "LostByStateModel", name := "hatch", desc := "()I" } : MethodName)) ∈ zTb := zTb_t 1615 (by decide +kernel) (by decide +kernel)
theorem ml_1616 : (Cond.code ({ cls := "LostByStateModel", name := "hatch", desc := "()I" } : MethodName) prog_14_method_99_code (4 : Nat) (Option.some FieldType.int)) ∈ zTb := zTb_t 1616 (by decide +kernel) (by decide +kernel)
theorem ml_1617 : (Cond.methodLink "LostByStateLaw" (206 : Nat) ({ cls := "LostByStateModel", name := "rests", desc := "(II)I" } : MethodName)) ∈ zTb := zTb_t 1617 (by decide +kernel) (by decide +kernel)
theorem ml_1618 : (Cond.instanceMethod ({ cls := "LostByStateModel", name := "rests", desc := "(II)I" } : MethodName)) ∈ zTb := zTb_t 1618 (by decide +kernel) (by decide +kernel)
theorem ml_1619 : (Cond.selects "LostByStateModel" ({ cls := "LostByStateModel", name := "rests", desc := "(II)I" } : MethodName) ({ cls := "LostByStateModel", name := "rests", desc := "(II)I" } : MethodName)) ∈ zTb := zTb_t 1619 (by decide +kernel) (by decide +kernel)
theorem ml_1620 : (Cond.code ({ cls := "LostByStateModel", name := "rests", desc := "(II)I" } : MethodName) prog_14_method_102_code (6 : Nat) (Option.some FieldType.int)) ∈ zTb := zTb_t 1620 (by decide +kernel) (by decide +kernel)
theorem ml_1627 : (Cond.methodLink "LostByStateLaw" (210 : Nat) ({ cls := "LostByStateModel", name := "law", desc := "()I" } : MethodName)) ∈ zTb := zTb_t 1627 (by decide +kernel) (by decide +kernel)
theorem ml_1628 : (Cond.instanceMethod ({ cls := "LostByStateModel", name := "law", desc := "()I" } : MethodName)) ∈ zTb := zTb_t 1628 (by decide +kernel) (by decide +kernel)
theorem ml_1629 : (Cond.selects "LostByStateModel" ({ cls := "LostByStateModel", name := "law", desc := "()I" } : MethodName) ({ cls := "LostByStateModel", name := "law", desc := "()I" } : MethodName)) ∈ zTb := zTb_t 1629 (by decide +kernel) (by decide +kernel)
theorem ml_1630 : (Cond.code ({ cls := "LostByStateModel", name := "law", desc := "()I" } : MethodName) prog_14_method_104_code (6 : Nat) (Option.some FieldType.int)) ∈ zTb := zTb_t 1630 (by decide +kernel) (by decide +kernel)
theorem ml_1635 : (Cond.methodLink "LostByStateLaw" (214 : Nat) ({ cls := "LostByStateModel", name := "years", desc := "(II)I" } : MethodName)) ∈ zTb := zTb_t 1635 (by decide +kernel) (by decide +kernel)
theorem ml_1636 : (Cond.instanceMethod ({ cls := "LostByStateModel", name := "years", desc := "(II)I" } : MethodName)) ∈ zTb := zTb_t 1636 (by decide +kernel) (by decide +kernel)
theorem ml_1637 : (Cond.selects "LostByStateModel" ({ cls := "LostByStateModel", name := "years", desc := "(II)I" } : MethodName) ({ cls := "LostByStateModel", name := "years", desc := "(II)I" } : MethodName)) ∈ zTb := zTb_t 1637 (by decide +kernel) (by decide +kernel)
theorem ml_1638 : (Cond.code ({ cls := "LostByStateModel", name := "years", desc := "(II)I" } : MethodName) prog_14_method_106_code (8 : Nat) (Option.some FieldType.int)) ∈ zTb := zTb_t 1638 (by decide +kernel) (by decide +kernel)
theorem ml_1644 : (Cond.methodLink "LostByStateLaw" (218 : Nat) ({ cls := "LostByStateModel", name := "keep", desc := "(I)Z" } : MethodName)) ∈ zTb := zTb_t 1644 (by decide +kernel) (by decide +kernel)
theorem ml_1645 : (Cond.instanceMethod ({ cls := "LostByStateModel", name := "keep", desc := "(I)Z" } : MethodName)) ∈ zTb := zTb_t 1645 (by decide +kernel) (by decide +kernel)
theorem ml_1646 : (Cond.selects "LostByStateModel" ({ cls := "LostByStateModel", name := "keep", desc := "(I)Z" } : MethodName) ({ cls := "LostByStateModel", name := "keep", desc := "(I)Z" } : MethodName)) ∈ zTb := zTb_t 1646 (by decide +kernel) (by decide +kernel)
theorem ml_1647 : (Cond.code ({ cls := "LostByStateModel", name := "keep", desc := "(I)Z" } : MethodName) prog_14_method_107_code (2 : Nat) (Option.some FieldType.boolean)) ∈ zTb := zTb_t 1647 (by decide +kernel) (by decide +kernel)
theorem ml_1648 : (Cond.methodLink "LostByStateLaw" (222 : Nat) ({ cls := "LostByStateModel", name := "again", desc := "(I)Z" } : MethodName)) ∈ zTb := zTb_t 1648 (by decide +kernel) (by decide +kernel)
theorem ml_1649 : (Cond.instanceMethod ({ cls := "LostByStateModel", name := "again", desc := "(I)Z" } : MethodName)) ∈ zTb := zTb_t 1649 (by decide +kernel) (by decide +kernel)
theorem ml_1650 : (Cond.selects "LostByStateModel" ({ cls := "LostByStateModel", name := "again", desc := "(I)Z" } : MethodName) ({ cls := "LostByStateModel", name := "again", desc := "(I)Z" } : MethodName)) ∈ zTb := zTb_t 1650 (by decide +kernel) (by decide +kernel)
theorem ml_1651 : (Cond.code ({ cls := "LostByStateModel", name := "again", desc := "(I)Z" } : MethodName) prog_14_method_108_code (3 : Nat) (Option.some FieldType.boolean)) ∈ zTb := zTb_t 1651 (by decide +kernel) (by decide +kernel)
theorem ml_1652 : (Cond.methodLink "LostByStateLaw" (226 : Nat) ({ cls := "LostByStateModel", name := "count", desc := "(I)I" } : MethodName)) ∈ zTb := zTb_t 1652 (by decide +kernel) (by decide +kernel)
theorem ml_1653 : (Cond.instanceMethod ({ cls := "LostByStateModel", name := "count", desc := "(I)I" } : MethodName)) ∈ zTb := zTb_t 1653 (by decide +kernel) (by decide +kernel)
theorem ml_1654 : (Cond.selects "LostByStateModel" ({ cls := "LostByStateModel", name := "count", desc := "(I)I" } : MethodName) ({ cls := "LostByStateModel", name := "count", desc := "(I)I" } : MethodName)) ∈ zTb := zTb_t 1654 (by decide +kernel) (by decide +kernel)
theorem ml_1655 : (Cond.code ({ cls := "LostByStateModel", name := "count", desc := "(I)I" } : MethodName) prog_14_method_109_code (2 : Nat) (Option.some FieldType.int)) ∈ zTb := zTb_t 1655 (by decide +kernel) (by decide +kernel)
theorem zdL_X11_sign (own : String) (idx : Nat) : zWd own idx yX11_sign cX11_sign 2 (some .int) 1 := ⟨⟨ml_332, ml_1, by decide, by decide, by decide +kernel⟩, by decide⟩
theorem wvL_26 : zWV RLw 26 11 yX11_sign cX11_sign 2 (some .int) 1 := ⟨zdL_X11_sign _ _, ml_329, ml_330, RX11, TX11, 19, rfl, ml_331⟩
theorem zdL_X12_sign (own : String) (idx : Nat) : zWd own idx yX12_sign cX12_sign 3 (some .int) 1 := ⟨⟨ml_1233, ml_14, by decide, by decide, by decide +kernel⟩, by decide⟩
theorem wvL_30 : zWV RLw 30 12 yX12_sign cX12_sign 3 (some .int) 1 := ⟨zdL_X12_sign _ _, ml_1230, ml_1231, RX12, TX12, 41, rfl, ml_1232⟩
theorem zdL_X11_end (own : String) (idx : Nat) : zWd own idx yX11_end cX11_end 2 (some .boolean) 1 := ⟨⟨ml_344, ml_1, by decide, by decide, by decide +kernel⟩, by decide⟩
theorem wvL_31 : zWV RLw 31 11 yX11_end cX11_end 2 (some .boolean) 1 := ⟨zdL_X11_end _ _, ml_341, ml_342, RX11, TX11, 19, rfl, ml_343⟩
theorem zdL_X12_end (own : String) (idx : Nat) : zWd own idx yX12_end cX12_end 2 (some .boolean) 1 := ⟨⟨ml_1237, ml_14, by decide, by decide, by decide +kernel⟩, by decide⟩
theorem wvL_35 : zWV RLw 35 12 yX12_end cX12_end 2 (some .boolean) 1 := ⟨zdL_X12_end _ _, ml_1234, ml_1235, RX12, TX12, 41, rfl, ml_1236⟩
theorem zdL_X11_things (own : String) (idx : Nat) : zWd own idx yX11_things cX11_things 2 (some .int) 0 := ⟨⟨ml_352, ml_1, by decide, by decide, by decide +kernel⟩, by decide⟩
theorem wvL_36 : zWV RLw 36 11 yX11_things cX11_things 2 (some .int) 0 := ⟨zdL_X11_things _ _, ml_349, ml_350, RX11, TX11, 19, rfl, ml_351⟩
theorem zdL_X12_things (own : String) (idx : Nat) : zWd own idx yX12_things cX12_things 4 (some .int) 0 := ⟨⟨ml_1244, ml_14, by decide, by decide, by decide +kernel⟩, by decide⟩
theorem wvL_40 : zWV RLw 40 12 yX12_things cX12_things 4 (some .int) 0 := ⟨zdL_X12_things _ _, ml_1241, ml_1242, RX12, TX12, 41, rfl, ml_1243⟩
theorem zdL_X11_deeds (own : String) (idx : Nat) : zWd own idx yX11_deeds cX11_deeds 2 (some .int) 0 := ⟨⟨ml_387, ml_1, by decide, by decide, by decide +kernel⟩, by decide⟩
theorem wvL_41 : zWV RLw 41 11 yX11_deeds cX11_deeds 2 (some .int) 0 := ⟨zdL_X11_deeds _ _, ml_384, ml_385, RX11, TX11, 19, rfl, ml_386⟩
theorem zdL_X12_deeds (own : String) (idx : Nat) : zWd own idx yX12_deeds cX12_deeds 4 (some .int) 0 := ⟨⟨ml_1288, ml_14, by decide, by decide, by decide +kernel⟩, by decide⟩
theorem wvL_44 : zWV RLw 44 12 yX12_deeds cX12_deeds 4 (some .int) 0 := ⟨zdL_X12_deeds _ _, ml_1285, ml_1286, RX12, TX12, 41, rfl, ml_1287⟩
theorem zdL_X11_rule (own : String) (idx : Nat) : zWd own idx yX11_rule cX11_rule 2 (some .int) 0 := ⟨⟨ml_397, ml_1, by decide, by decide, by decide +kernel⟩, by decide⟩
theorem wvL_45 : zWV RLw 45 11 yX11_rule cX11_rule 2 (some .int) 0 := ⟨zdL_X11_rule _ _, ml_394, ml_395, RX11, TX11, 19, rfl, ml_396⟩
theorem zdL_X12_rule (own : String) (idx : Nat) : zWd own idx yX12_rule cX12_rule 3 (some .int) 0 := ⟨⟨ml_1292, ml_14, by decide, by decide, by decide +kernel⟩, by decide⟩
theorem wvL_48 : zWV RLw 48 12 yX12_rule cX12_rule 3 (some .int) 0 := ⟨zdL_X12_rule _ _, ml_1289, ml_1290, RX12, TX12, 41, rfl, ml_1291⟩
theorem zdL_X11_set (own : String) (idx : Nat) : zWd own idx yX11_set cX11_set 4 (some .int) 2 := ⟨⟨ml_538, ml_1, by decide, by decide, by decide +kernel⟩, by decide⟩
theorem wvL_61 : zWV RLw 61 11 yX11_set cX11_set 4 (some .int) 2 := ⟨zdL_X11_set _ _, ml_535, ml_536, RX11, TX11, 19, rfl, ml_537⟩
theorem zdL_X12_set (own : String) (idx : Nat) : zWd own idx yX12_set cX12_set 4 (some .int) 2 := ⟨⟨ml_1358, ml_14, by decide, by decide, by decide +kernel⟩, by decide⟩
theorem wvL_64 : zWV RLw 64 12 yX12_set cX12_set 4 (some .int) 2 := ⟨zdL_X12_set _ _, ml_1355, ml_1356, RX12, TX12, 41, rfl, ml_1357⟩
theorem zdL_X11_sheet (own : String) (idx : Nat) : zWd own idx yX11_sheet cX11_sheet 10 (some .int) 4 := ⟨⟨ml_542, ml_1, by decide, by decide, by decide +kernel⟩, by decide⟩
theorem wvL_65 : zWV RLw 65 11 yX11_sheet cX11_sheet 10 (some .int) 4 := ⟨zdL_X11_sheet _ _, ml_539, ml_540, RX11, TX11, 19, rfl, ml_541⟩
theorem zdL_X12_sheet (own : String) (idx : Nat) : zWd own idx yX12_sheet cX12_sheet 8 (some .int) 4 := ⟨⟨ml_1362, ml_14, by decide, by decide, by decide +kernel⟩, by decide⟩
theorem wvL_69 : zWV RLw 69 12 yX12_sheet cX12_sheet 8 (some .int) 4 := ⟨zdL_X12_sheet _ _, ml_1359, ml_1360, RX12, TX12, 41, rfl, ml_1361⟩
theorem zdL_X11_loses (own : String) (idx : Nat) : zWd own idx yX11_loses cX11_loses 3 (some .int) 2 := ⟨⟨ml_554, ml_1, by decide, by decide, by decide +kernel⟩, by decide⟩
theorem wvL_70 : zWV RLw 70 11 yX11_loses cX11_loses 3 (some .int) 2 := ⟨zdL_X11_loses _ _, ml_551, ml_552, RX11, TX11, 19, rfl, ml_553⟩
theorem zdL_X12_loses (own : String) (idx : Nat) : zWd own idx yX12_loses cX12_loses 4 (some .int) 2 := ⟨⟨ml_1376, ml_14, by decide, by decide, by decide +kernel⟩, by decide⟩
theorem wvL_73 : zWV RLw 73 12 yX12_loses cX12_loses 4 (some .int) 2 := ⟨zdL_X12_loses _ _, ml_1373, ml_1374, RX12, TX12, 41, rfl, ml_1375⟩
theorem zdL_X11_finds (own : String) (idx : Nat) : zWd own idx yX11_finds cX11_finds 3 (some .int) 2 := ⟨⟨ml_668, ml_1, by decide, by decide, by decide +kernel⟩, by decide⟩
theorem wvL_74 : zWV RLw 74 11 yX11_finds cX11_finds 3 (some .int) 2 := ⟨zdL_X11_finds _ _, ml_665, ml_666, RX11, TX11, 19, rfl, ml_667⟩
theorem zdL_X12_finds (own : String) (idx : Nat) : zWd own idx yX12_finds cX12_finds 4 (some .int) 2 := ⟨⟨ml_1399, ml_14, by decide, by decide, by decide +kernel⟩, by decide⟩
theorem wvL_77 : zWV RLw 77 12 yX12_finds cX12_finds 4 (some .int) 2 := ⟨zdL_X12_finds _ _, ml_1396, ml_1397, RX12, TX12, 41, rfl, ml_1398⟩
theorem zdL_X11_claim (own : String) (idx : Nat) : zWd own idx yX11_claim cX11_claim 3 (some .int) 2 := ⟨⟨ml_672, ml_1, by decide, by decide, by decide +kernel⟩, by decide⟩
theorem wvL_78 : zWV RLw 78 11 yX11_claim cX11_claim 3 (some .int) 2 := ⟨zdL_X11_claim _ _, ml_669, ml_670, RX11, TX11, 19, rfl, ml_671⟩
theorem zdL_X12_claim (own : String) (idx : Nat) : zWd own idx yX12_claim cX12_claim 3 (some .int) 2 := ⟨⟨ml_1407, ml_14, by decide, by decide, by decide +kernel⟩, by decide⟩
theorem wvL_81 : zWV RLw 81 12 yX12_claim cX12_claim 3 (some .int) 2 := ⟨zdL_X12_claim _ _, ml_1404, ml_1405, RX12, TX12, 41, rfl, ml_1406⟩
theorem zdL_X11_gives (own : String) (idx : Nat) : zWd own idx yX11_gives cX11_gives 3 (some .int) 2 := ⟨⟨ml_676, ml_1, by decide, by decide, by decide +kernel⟩, by decide⟩
theorem wvL_82 : zWV RLw 82 11 yX11_gives cX11_gives 3 (some .int) 2 := ⟨zdL_X11_gives _ _, ml_673, ml_674, RX11, TX11, 19, rfl, ml_675⟩
theorem zdL_X12_gives (own : String) (idx : Nat) : zWd own idx yX12_gives cX12_gives 5 (some .int) 2 := ⟨⟨ml_1426, ml_14, by decide, by decide, by decide +kernel⟩, by decide⟩
theorem wvL_85 : zWV RLw 85 12 yX12_gives cX12_gives 5 (some .int) 2 := ⟨zdL_X12_gives _ _, ml_1423, ml_1424, RX12, TX12, 41, rfl, ml_1425⟩
theorem zdL_X11_days (own : String) (idx : Nat) : zWd own idx yX11_days cX11_days 3 (some .int) 1 := ⟨⟨ml_680, ml_1, by decide, by decide, by decide +kernel⟩, by decide⟩
theorem wvL_86 : zWV RLw 86 11 yX11_days cX11_days 3 (some .int) 1 := ⟨zdL_X11_days _ _, ml_677, ml_678, RX11, TX11, 19, rfl, ml_679⟩
theorem zdL_X12_days (own : String) (idx : Nat) : zWd own idx yX12_days cX12_days 3 (some .int) 1 := ⟨⟨ml_1434, ml_14, by decide, by decide, by decide +kernel⟩, by decide⟩
theorem wvL_89 : zWV RLw 89 12 yX12_days cX12_days 3 (some .int) 1 := ⟨zdL_X12_days _ _, ml_1431, ml_1432, RX12, TX12, 41, rfl, ml_1433⟩
theorem zdL_X11_year (own : String) (idx : Nat) : zWd own idx yX11_year cX11_year 4 (some .int) 0 := ⟨⟨ml_700, ml_1, by decide, by decide, by decide +kernel⟩, by decide⟩
theorem wvL_90 : zWV RLw 90 11 yX11_year cX11_year 4 (some .int) 0 := ⟨zdL_X11_year _ _, ml_697, ml_698, RX11, TX11, 19, rfl, ml_699⟩
theorem zdL_X12_year (own : String) (idx : Nat) : zWd own idx yX12_year cX12_year 3 (some .int) 0 := ⟨⟨ml_1454, ml_14, by decide, by decide, by decide +kernel⟩, by decide⟩
theorem wvL_93 : zWV RLw 93 12 yX12_year cX12_year 3 (some .int) 0 := ⟨zdL_X12_year _ _, ml_1451, ml_1452, RX12, TX12, 41, rfl, ml_1453⟩
theorem zdL_X11_undo (own : String) (idx : Nat) : zWd own idx yX11_undo cX11_undo 1 (some .int) 0 := ⟨⟨ml_717, ml_1, by decide, by decide, by decide +kernel⟩, by decide⟩
theorem wvL_94 : zWV RLw 94 11 yX11_undo cX11_undo 1 (some .int) 0 := ⟨zdL_X11_undo _ _, ml_714, ml_715, RX11, TX11, 19, rfl, ml_716⟩
theorem zdL_X12_undo (own : String) (idx : Nat) : zWd own idx yX12_undo cX12_undo 2 (some .int) 0 := ⟨⟨ml_1470, ml_14, by decide, by decide, by decide +kernel⟩, by decide⟩
theorem wvL_97 : zWV RLw 97 12 yX12_undo cX12_undo 2 (some .int) 0 := ⟨zdL_X12_undo _ _, ml_1467, ml_1468, RX12, TX12, 41, rfl, ml_1469⟩
theorem zdL_X11_match (own : String) (idx : Nat) : zWd own idx yX11_match cX11_match 3 (some .int) 2 := ⟨⟨ml_725, ml_1, by decide, by decide, by decide +kernel⟩, by decide⟩
theorem wvL_98 : zWV RLw 98 11 yX11_match cX11_match 3 (some .int) 2 := ⟨zdL_X11_match _ _, ml_722, ml_723, RX11, TX11, 19, rfl, ml_724⟩
theorem zdL_X12_match (own : String) (idx : Nat) : zWd own idx yX12_match cX12_match 3 (some .int) 2 := ⟨⟨ml_1474, ml_14, by decide, by decide, by decide +kernel⟩, by decide⟩
theorem wvL_101 : zWV RLw 101 12 yX12_match cX12_match 3 (some .int) 2 := ⟨zdL_X12_match _ _, ml_1471, ml_1472, RX12, TX12, 41, rfl, ml_1473⟩
theorem zdL_X11_gets (own : String) (idx : Nat) : zWd own idx yX11_gets cX11_gets 3 (some .int) 1 := ⟨⟨ml_732, ml_1, by decide, by decide, by decide +kernel⟩, by decide⟩
theorem wvL_102 : zWV RLw 102 11 yX11_gets cX11_gets 3 (some .int) 1 := ⟨zdL_X11_gets _ _, ml_729, ml_730, RX11, TX11, 19, rfl, ml_731⟩
theorem zdL_X12_gets (own : String) (idx : Nat) : zWd own idx yX12_gets cX12_gets 5 (some .int) 1 := ⟨⟨ml_1481, ml_14, by decide, by decide, by decide +kernel⟩, by decide⟩
theorem wvL_105 : zWV RLw 105 12 yX12_gets cX12_gets 5 (some .int) 1 := ⟨zdL_X12_gets _ _, ml_1478, ml_1479, RX12, TX12, 41, rfl, ml_1480⟩
theorem zdL_X11_fewest (own : String) (idx : Nat) : zWd own idx yX11_fewest cX11_fewest 6 (some .int) 1 := ⟨⟨ml_740, ml_1, by decide, by decide, by decide +kernel⟩, by decide⟩
theorem wvL_106 : zWV RLw 106 11 yX11_fewest cX11_fewest 6 (some .int) 1 := ⟨zdL_X11_fewest _ _, ml_737, ml_738, RX11, TX11, 19, rfl, ml_739⟩
theorem zdL_X12_fewest (own : String) (idx : Nat) : zWd own idx yX12_fewest cX12_fewest 4 (some .int) 1 := ⟨⟨ml_1485, ml_14, by decide, by decide, by decide +kernel⟩, by decide⟩
theorem wvL_109 : zWV RLw 109 12 yX12_fewest cX12_fewest 4 (some .int) 1 := ⟨zdL_X12_fewest _ _, ml_1482, ml_1483, RX12, TX12, 41, rfl, ml_1484⟩
theorem zdL_X11_ways (own : String) (idx : Nat) : zWd own idx yX11_ways cX11_ways 2 (some .int) 1 := ⟨⟨ml_762, ml_1, by decide, by decide, by decide +kernel⟩, by decide⟩
theorem wvL_110 : zWV RLw 110 11 yX11_ways cX11_ways 2 (some .int) 1 := ⟨zdL_X11_ways _ _, ml_759, ml_760, RX11, TX11, 19, rfl, ml_761⟩
theorem zdL_X12_ways (own : String) (idx : Nat) : zWd own idx yX12_ways cX12_ways 6 (some .int) 1 := ⟨⟨ml_1489, ml_14, by decide, by decide, by decide +kernel⟩, by decide⟩
theorem wvL_113 : zWV RLw 113 12 yX12_ways cX12_ways 6 (some .int) 1 := ⟨zdL_X12_ways _ _, ml_1486, ml_1487, RX12, TX12, 41, rfl, ml_1488⟩
theorem zdL_X11_shares (own : String) (idx : Nat) : zWd own idx yX11_shares cX11_shares 5 (some .int) 0 := ⟨⟨ml_770, ml_1, by decide, by decide, by decide +kernel⟩, by decide⟩
theorem wvL_114 : zWV RLw 114 11 yX11_shares cX11_shares 5 (some .int) 0 := ⟨zdL_X11_shares _ _, ml_767, ml_768, RX11, TX11, 19, rfl, ml_769⟩
theorem zdL_X12_shares (own : String) (idx : Nat) : zWd own idx yX12_shares cX12_shares 8 (some .int) 0 := ⟨⟨ml_1493, ml_14, by decide, by decide, by decide +kernel⟩, by decide⟩
theorem wvL_117 : zWV RLw 117 12 yX12_shares cX12_shares 8 (some .int) 0 := ⟨zdL_X12_shares _ _, ml_1490, ml_1491, RX12, TX12, 41, rfl, ml_1492⟩
theorem zdL_X11_until (own : String) (idx : Nat) : zWd own idx yX11_until cX11_until 2 (some .int) 1 := ⟨⟨ml_799, ml_1, by decide, by decide, by decide +kernel⟩, by decide⟩
theorem wvL_118 : zWV RLw 118 11 yX11_until cX11_until 2 (some .int) 1 := ⟨zdL_X11_until _ _, ml_796, ml_797, RX11, TX11, 19, rfl, ml_798⟩
theorem zdL_X12_until (own : String) (idx : Nat) : zWd own idx yX12_until cX12_until 2 (some .int) 1 := ⟨⟨ml_1501, ml_14, by decide, by decide, by decide +kernel⟩, by decide⟩
theorem wvL_121 : zWV RLw 121 12 yX12_until cX12_until 2 (some .int) 1 := ⟨zdL_X12_until _ _, ml_1498, ml_1499, RX12, TX12, 41, rfl, ml_1500⟩
theorem zdL_X11_later (own : String) (idx : Nat) : zWd own idx yX11_later cX11_later 4 (some .int) 1 := ⟨⟨ml_808, ml_1, by decide, by decide, by decide +kernel⟩, by decide⟩
theorem wvL_122 : zWV RLw 122 11 yX11_later cX11_later 4 (some .int) 1 := ⟨zdL_X11_later _ _, ml_805, ml_806, RX11, TX11, 19, rfl, ml_807⟩
theorem zdL_X12_later (own : String) (idx : Nat) : zWd own idx yX12_later cX12_later 4 (some .int) 1 := ⟨⟨ml_1509, ml_14, by decide, by decide, by decide +kernel⟩, by decide⟩
theorem wvL_125 : zWV RLw 125 12 yX12_later cX12_later 4 (some .int) 1 := ⟨zdL_X12_later _ _, ml_1506, ml_1507, RX12, TX12, 41, rfl, ml_1508⟩
theorem zdL_X11_advantage (own : String) (idx : Nat) : zWd own idx yX11_advantage cX11_advantage 5 (some .int) 0 := ⟨⟨ml_813, ml_1, by decide, by decide, by decide +kernel⟩, by decide⟩
theorem wvL_126 : zWV RLw 126 11 yX11_advantage cX11_advantage 5 (some .int) 0 := ⟨zdL_X11_advantage _ _, ml_810, ml_811, RX11, TX11, 19, rfl, ml_812⟩
theorem zdL_X12_advantage (own : String) (idx : Nat) : zWd own idx yX12_advantage cX12_advantage 3 (some .int) 0 := ⟨⟨ml_1513, ml_14, by decide, by decide, by decide +kernel⟩, by decide⟩
theorem wvL_129 : zWV RLw 129 12 yX12_advantage cX12_advantage 3 (some .int) 0 := ⟨zdL_X12_advantage _ _, ml_1510, ml_1511, RX12, TX12, 41, rfl, ml_1512⟩
theorem zdL_X11_soonest (own : String) (idx : Nat) : zWd own idx yX11_soonest cX11_soonest 4 (some .int) 0 := ⟨⟨ml_822, ml_1, by decide, by decide, by decide +kernel⟩, by decide⟩
theorem wvL_130 : zWV RLw 130 11 yX11_soonest cX11_soonest 4 (some .int) 0 := ⟨zdL_X11_soonest _ _, ml_819, ml_820, RX11, TX11, 19, rfl, ml_821⟩
theorem zdL_X12_soonest (own : String) (idx : Nat) : zWd own idx yX12_soonest cX12_soonest 3 (some .int) 0 := ⟨⟨ml_1517, ml_14, by decide, by decide, by decide +kernel⟩, by decide⟩
theorem wvL_133 : zWV RLw 133 12 yX12_soonest cX12_soonest 3 (some .int) 0 := ⟨zdL_X12_soonest _ _, ml_1514, ml_1515, RX12, TX12, 41, rfl, ml_1516⟩
theorem zdL_X11_confused (own : String) (idx : Nat) : zWd own idx yX11_confused cX11_confused 7 (some .int) 1 := ⟨⟨ml_826, ml_1, by decide, by decide, by decide +kernel⟩, by decide⟩
theorem wvL_134 : zWV RLw 134 11 yX11_confused cX11_confused 7 (some .int) 1 := ⟨zdL_X11_confused _ _, ml_823, ml_824, RX11, TX11, 19, rfl, ml_825⟩
theorem zdL_X12_confused (own : String) (idx : Nat) : zWd own idx yX12_confused cX12_confused 4 (some .int) 1 := ⟨⟨ml_1521, ml_14, by decide, by decide, by decide +kernel⟩, by decide⟩
theorem wvL_137 : zWV RLw 137 12 yX12_confused cX12_confused 4 (some .int) 1 := ⟨zdL_X12_confused _ _, ml_1518, ml_1519, RX12, TX12, 41, rfl, ml_1520⟩
theorem zdL_X11_regains (own : String) (idx : Nat) : zWd own idx yX11_regains cX11_regains 6 (some .int) 1 := ⟨⟨ml_830, ml_1, by decide, by decide, by decide +kernel⟩, by decide⟩
theorem wvL_138 : zWV RLw 138 11 yX11_regains cX11_regains 6 (some .int) 1 := ⟨zdL_X11_regains _ _, ml_827, ml_828, RX11, TX11, 19, rfl, ml_829⟩
theorem zdL_X12_regains (own : String) (idx : Nat) : zWd own idx yX12_regains cX12_regains 2 (some .int) 1 := ⟨⟨ml_1525, ml_14, by decide, by decide, by decide +kernel⟩, by decide⟩
theorem wvL_141 : zWV RLw 141 12 yX12_regains cX12_regains 2 (some .int) 1 := ⟨zdL_X12_regains _ _, ml_1522, ml_1523, RX12, TX12, 41, rfl, ml_1524⟩
theorem zdL_X11_said (own : String) (idx : Nat) : zWd own idx yX11_said cX11_said 3 (some .int) 2 := ⟨⟨ml_839, ml_1, by decide, by decide, by decide +kernel⟩, by decide⟩
theorem wvL_142 : zWV RLw 142 11 yX11_said cX11_said 3 (some .int) 2 := ⟨zdL_X11_said _ _, ml_836, ml_837, RX11, TX11, 19, rfl, ml_838⟩
theorem zdL_X12_said (own : String) (idx : Nat) : zWd own idx yX12_said cX12_said 3 (some .int) 2 := ⟨⟨ml_1533, ml_14, by decide, by decide, by decide +kernel⟩, by decide⟩
theorem wvL_145 : zWV RLw 145 12 yX12_said cX12_said 3 (some .int) 2 := ⟨zdL_X12_said _ _, ml_1530, ml_1531, RX12, TX12, 41, rfl, ml_1532⟩
theorem zdL_X11_forget (own : String) (idx : Nat) : zWd own idx yX11_forget cX11_forget 2 (some .int) 0 := ⟨⟨ml_847, ml_1, by decide, by decide, by decide +kernel⟩, by decide⟩
theorem wvL_146 : zWV RLw 146 11 yX11_forget cX11_forget 2 (some .int) 0 := ⟨zdL_X11_forget _ _, ml_844, ml_845, RX11, TX11, 19, rfl, ml_846⟩
theorem zdL_X12_forget (own : String) (idx : Nat) : zWd own idx yX12_forget cX12_forget 2 (some .int) 0 := ⟨⟨ml_1537, ml_14, by decide, by decide, by decide +kernel⟩, by decide⟩
theorem wvL_149 : zWV RLw 149 12 yX12_forget cX12_forget 2 (some .int) 0 := ⟨zdL_X12_forget _ _, ml_1534, ml_1535, RX12, TX12, 41, rfl, ml_1536⟩
theorem zdL_X11_fits (own : String) (idx : Nat) : zWd own idx yX11_fits cX11_fits 4 (some .int) 0 := ⟨⟨ml_855, ml_1, by decide, by decide, by decide +kernel⟩, by decide⟩
theorem wvL_150 : zWV RLw 150 11 yX11_fits cX11_fits 4 (some .int) 0 := ⟨zdL_X11_fits _ _, ml_852, ml_853, RX11, TX11, 19, rfl, ml_854⟩
theorem zdL_X12_fits (own : String) (idx : Nat) : zWd own idx yX12_fits cX12_fits 4 (some .int) 0 := ⟨⟨ml_1541, ml_14, by decide, by decide, by decide +kernel⟩, by decide⟩
theorem wvL_153 : zWV RLw 153 12 yX12_fits cX12_fits 4 (some .int) 0 := ⟨zdL_X12_fits _ _, ml_1538, ml_1539, RX12, TX12, 41, rfl, ml_1540⟩
theorem zdL_X11_ask (own : String) (idx : Nat) : zWd own idx yX11_ask cX11_ask 8 (some .int) 0 := ⟨⟨ml_868, ml_1, by decide, by decide, by decide +kernel⟩, by decide⟩
theorem wvL_154 : zWV RLw 154 11 yX11_ask cX11_ask 8 (some .int) 0 := ⟨zdL_X11_ask _ _, ml_865, ml_866, RX11, TX11, 19, rfl, ml_867⟩
theorem zdL_X12_ask (own : String) (idx : Nat) : zWd own idx yX12_ask cX12_ask 7 (some .int) 0 := ⟨⟨ml_1549, ml_14, by decide, by decide, by decide +kernel⟩, by decide⟩
theorem wvL_157 : zWV RLw 157 12 yX12_ask cX12_ask 7 (some .int) 0 := ⟨zdL_X12_ask _ _, ml_1546, ml_1547, RX12, TX12, 41, rfl, ml_1548⟩
theorem zdL_X11_tellsApart (own : String) (idx : Nat) : zWd own idx yX11_tellsApart cX11_tellsApart 5 (some .int) 0 := ⟨⟨ml_876, ml_1, by decide, by decide, by decide +kernel⟩, by decide⟩
theorem wvL_158 : zWV RLw 158 11 yX11_tellsApart cX11_tellsApart 5 (some .int) 0 := ⟨zdL_X11_tellsApart _ _, ml_873, ml_874, RX11, TX11, 19, rfl, ml_875⟩
theorem zdL_X12_tellsApart (own : String) (idx : Nat) : zWd own idx yX12_tellsApart cX12_tellsApart 3 (some .int) 0 := ⟨⟨ml_1554, ml_14, by decide, by decide, by decide +kernel⟩, by decide⟩
theorem wvL_161 : zWV RLw 161 12 yX12_tellsApart cX12_tellsApart 3 (some .int) 0 := ⟨zdL_X12_tellsApart _ _, ml_1551, ml_1552, RX12, TX12, 41, rfl, ml_1553⟩
theorem zdL_X11_alike (own : String) (idx : Nat) : zWd own idx yX11_alike cX11_alike 7 (some .int) 0 := ⟨⟨ml_884, ml_1, by decide, by decide, by decide +kernel⟩, by decide⟩
theorem wvL_162 : zWV RLw 162 11 yX11_alike cX11_alike 7 (some .int) 0 := ⟨zdL_X11_alike _ _, ml_881, ml_882, RX11, TX11, 19, rfl, ml_883⟩
theorem zdL_X12_alike (own : String) (idx : Nat) : zWd own idx yX12_alike cX12_alike 7 (some .int) 0 := ⟨⟨ml_1562, ml_14, by decide, by decide, by decide +kernel⟩, by decide⟩
theorem wvL_165 : zWV RLw 165 12 yX12_alike cX12_alike 7 (some .int) 0 := ⟨zdL_X12_alike _ _, ml_1559, ml_1560, RX12, TX12, 41, rfl, ml_1561⟩
theorem zdL_X11_looks (own : String) (idx : Nat) : zWd own idx yX11_looks cX11_looks 5 (some .int) 1 := ⟨⟨ml_888, ml_1, by decide, by decide, by decide +kernel⟩, by decide⟩
theorem wvL_166 : zWV RLw 166 11 yX11_looks cX11_looks 5 (some .int) 1 := ⟨zdL_X11_looks _ _, ml_885, ml_886, RX11, TX11, 19, rfl, ml_887⟩
theorem zdL_X12_looks (own : String) (idx : Nat) : zWd own idx yX12_looks cX12_looks 9 (some .int) 1 := ⟨⟨ml_1566, ml_14, by decide, by decide, by decide +kernel⟩, by decide⟩
theorem wvL_169 : zWV RLw 169 12 yX12_looks cX12_looks 9 (some .int) 1 := ⟨zdL_X12_looks _ _, ml_1563, ml_1564, RX12, TX12, 41, rfl, ml_1565⟩
theorem zdL_X11_strays (own : String) (idx : Nat) : zWd own idx yX11_strays cX11_strays 10 (some .int) 3 := ⟨⟨ml_921, ml_1, by decide, by decide, by decide +kernel⟩, by decide⟩
theorem wvL_170 : zWV RLw 170 11 yX11_strays cX11_strays 10 (some .int) 3 := ⟨zdL_X11_strays _ _, ml_918, ml_919, RX11, TX11, 19, rfl, ml_920⟩
theorem zdL_X12_strays (own : String) (idx : Nat) : zWd own idx yX12_strays cX12_strays 6 (some .int) 3 := ⟨⟨ml_1579, ml_14, by decide, by decide, by decide +kernel⟩, by decide⟩
theorem wvL_174 : zWV RLw 174 12 yX12_strays cX12_strays 6 (some .int) 3 := ⟨zdL_X12_strays _ _, ml_1576, ml_1577, RX12, TX12, 41, rfl, ml_1578⟩
theorem zdL_X11_can (own : String) (idx : Nat) : zWd own idx yX11_can cX11_can 3 (some .int) 0 := ⟨⟨ml_928, ml_1, by decide, by decide, by decide +kernel⟩, by decide⟩
theorem wvL_175 : zWV RLw 175 11 yX11_can cX11_can 3 (some .int) 0 := ⟨zdL_X11_can _ _, ml_925, ml_926, RX11, TX11, 19, rfl, ml_927⟩
theorem zdL_X12_can (own : String) (idx : Nat) : zWd own idx yX12_can cX12_can 2 (some .int) 0 := ⟨⟨ml_1583, ml_14, by decide, by decide, by decide +kernel⟩, by decide⟩
theorem wvL_178 : zWV RLw 178 12 yX12_can cX12_can 2 (some .int) 0 := ⟨zdL_X12_can _ _, ml_1580, ml_1581, RX12, TX12, 41, rfl, ml_1582⟩
theorem zdL_X11_with (own : String) (idx : Nat) : zWd own idx yX11_with cX11_with 9 (some .int) 1 := ⟨⟨ml_936, ml_1, by decide, by decide, by decide +kernel⟩, by decide⟩
theorem wvL_179 : zWV RLw 179 11 yX11_with cX11_with 9 (some .int) 1 := ⟨zdL_X11_with _ _, ml_933, ml_934, RX11, TX11, 19, rfl, ml_935⟩
theorem zdL_X12_with (own : String) (idx : Nat) : zWd own idx yX12_with cX12_with 7 (some .int) 1 := ⟨⟨ml_1591, ml_14, by decide, by decide, by decide +kernel⟩, by decide⟩
theorem wvL_182 : zWV RLw 182 12 yX12_with cX12_with 7 (some .int) 1 := ⟨zdL_X12_with _ _, ml_1588, ml_1589, RX12, TX12, 41, rfl, ml_1590⟩
theorem zdL_X11_weakest (own : String) (idx : Nat) : zWd own idx yX11_weakest cX11_weakest 7 (some .int) 0 := ⟨⟨ml_940, ml_1, by decide, by decide, by decide +kernel⟩, by decide⟩
theorem wvL_183 : zWV RLw 183 11 yX11_weakest cX11_weakest 7 (some .int) 0 := ⟨zdL_X11_weakest _ _, ml_937, ml_938, RX11, TX11, 19, rfl, ml_939⟩
theorem zdL_X12_weakest (own : String) (idx : Nat) : zWd own idx yX12_weakest cX12_weakest 6 (some .int) 0 := ⟨⟨ml_1595, ml_14, by decide, by decide, by decide +kernel⟩, by decide⟩
theorem wvL_186 : zWV RLw 186 12 yX12_weakest cX12_weakest 6 (some .int) 0 := ⟨zdL_X12_weakest _ _, ml_1592, ml_1593, RX12, TX12, 41, rfl, ml_1594⟩
theorem zdL_X11_worth (own : String) (idx : Nat) : zWd own idx yX11_worth cX11_worth 8 (some .int) 1 := ⟨⟨ml_948, ml_1, by decide, by decide, by decide +kernel⟩, by decide⟩
theorem wvL_187 : zWV RLw 187 11 yX11_worth cX11_worth 8 (some .int) 1 := ⟨zdL_X11_worth _ _, ml_945, ml_946, RX11, TX11, 19, rfl, ml_947⟩
theorem zdL_X12_worth (own : String) (idx : Nat) : zWd own idx yX12_worth cX12_worth 4 (some .int) 1 := ⟨⟨ml_1599, ml_14, by decide, by decide, by decide +kernel⟩, by decide⟩
theorem wvL_190 : zWV RLw 190 12 yX12_worth cX12_worth 4 (some .int) 1 := ⟨zdL_X12_worth _ _, ml_1596, ml_1597, RX12, TX12, 41, rfl, ml_1598⟩
theorem zdL_X11_hangs (own : String) (idx : Nat) : zWd own idx yX11_hangs cX11_hangs 6 (some .int) 1 := ⟨⟨ml_953, ml_1, by decide, by decide, by decide +kernel⟩, by decide⟩
theorem wvL_191 : zWV RLw 191 11 yX11_hangs cX11_hangs 6 (some .int) 1 := ⟨zdL_X11_hangs _ _, ml_950, ml_951, RX11, TX11, 19, rfl, ml_952⟩
theorem zdL_X12_hangs (own : String) (idx : Nat) : zWd own idx yX12_hangs cX12_hangs 6 (some .int) 1 := ⟨⟨ml_1604, ml_14, by decide, by decide, by decide +kernel⟩, by decide⟩
theorem wvL_194 : zWV RLw 194 12 yX12_hangs cX12_hangs 6 (some .int) 1 := ⟨zdL_X12_hangs _ _, ml_1601, ml_1602, RX12, TX12, 41, rfl, ml_1603⟩
theorem zdL_X11_likely (own : String) (idx : Nat) : zWd own idx yX11_likely cX11_likely 10 (some .int) 2 := ⟨⟨ml_957, ml_1, by decide, by decide, by decide +kernel⟩, by decide⟩
theorem wvL_195 : zWV RLw 195 11 yX11_likely cX11_likely 10 (some .int) 2 := ⟨zdL_X11_likely _ _, ml_954, ml_955, RX11, TX11, 19, rfl, ml_956⟩
theorem zdL_X12_likely (own : String) (idx : Nat) : zWd own idx yX12_likely cX12_likely 8 (some .int) 2 := ⟨⟨ml_1608, ml_14, by decide, by decide, by decide +kernel⟩, by decide⟩
theorem wvL_198 : zWV RLw 198 12 yX12_likely cX12_likely 8 (some .int) 2 := ⟨zdL_X12_likely _ _, ml_1605, ml_1606, RX12, TX12, 41, rfl, ml_1607⟩
theorem zdL_X11_hatch (own : String) (idx : Nat) : zWd own idx yX11_hatch cX11_hatch 5 (some .int) 0 := ⟨⟨ml_965, ml_1, by decide, by decide, by decide +kernel⟩, by decide⟩
theorem wvL_199 : zWV RLw 199 11 yX11_hatch cX11_hatch 5 (some .int) 0 := ⟨zdL_X11_hatch _ _, ml_962, ml_963, RX11, TX11, 19, rfl, ml_964⟩
theorem zdL_X12_hatch (own : String) (idx : Nat) : zWd own idx yX12_hatch cX12_hatch 4 (some .int) 0 := ⟨⟨ml_1616, ml_14, by decide, by decide, by decide +kernel⟩, by decide⟩
theorem wvL_202 : zWV RLw 202 12 yX12_hatch cX12_hatch 4 (some .int) 0 := ⟨zdL_X12_hatch _ _, ml_1613, ml_1614, RX12, TX12, 41, rfl, ml_1615⟩
theorem zdL_X11_rests (own : String) (idx : Nat) : zWd own idx yX11_rests cX11_rests 6 (some .int) 2 := ⟨⟨ml_969, ml_1, by decide, by decide, by decide +kernel⟩, by decide⟩
theorem wvL_203 : zWV RLw 203 11 yX11_rests cX11_rests 6 (some .int) 2 := ⟨zdL_X11_rests _ _, ml_966, ml_967, RX11, TX11, 19, rfl, ml_968⟩
theorem zdL_X12_rests (own : String) (idx : Nat) : zWd own idx yX12_rests cX12_rests 6 (some .int) 2 := ⟨⟨ml_1620, ml_14, by decide, by decide, by decide +kernel⟩, by decide⟩
theorem wvL_206 : zWV RLw 206 12 yX12_rests cX12_rests 6 (some .int) 2 := ⟨zdL_X12_rests _ _, ml_1617, ml_1618, RX12, TX12, 41, rfl, ml_1619⟩
theorem zdL_X11_law (own : String) (idx : Nat) : zWd own idx yX11_law cX11_law 4 (some .int) 0 := ⟨⟨ml_979, ml_1, by decide, by decide, by decide +kernel⟩, by decide⟩
theorem wvL_207 : zWV RLw 207 11 yX11_law cX11_law 4 (some .int) 0 := ⟨zdL_X11_law _ _, ml_976, ml_977, RX11, TX11, 19, rfl, ml_978⟩
theorem zdL_X12_law (own : String) (idx : Nat) : zWd own idx yX12_law cX12_law 6 (some .int) 0 := ⟨⟨ml_1630, ml_14, by decide, by decide, by decide +kernel⟩, by decide⟩
theorem wvL_210 : zWV RLw 210 12 yX12_law cX12_law 6 (some .int) 0 := ⟨zdL_X12_law _ _, ml_1627, ml_1628, RX12, TX12, 41, rfl, ml_1629⟩
theorem zdL_X11_years (own : String) (idx : Nat) : zWd own idx yX11_years cX11_years 5 (some .int) 2 := ⟨⟨ml_983, ml_1, by decide, by decide, by decide +kernel⟩, by decide⟩
theorem wvL_211 : zWV RLw 211 11 yX11_years cX11_years 5 (some .int) 2 := ⟨zdL_X11_years _ _, ml_980, ml_981, RX11, TX11, 19, rfl, ml_982⟩
theorem zdL_X12_years (own : String) (idx : Nat) : zWd own idx yX12_years cX12_years 8 (some .int) 2 := ⟨⟨ml_1638, ml_14, by decide, by decide, by decide +kernel⟩, by decide⟩
theorem wvL_214 : zWV RLw 214 12 yX12_years cX12_years 8 (some .int) 2 := ⟨zdL_X12_years _ _, ml_1635, ml_1636, RX12, TX12, 41, rfl, ml_1637⟩
theorem zdL_X11_keep (own : String) (idx : Nat) : zWd own idx yX11_keep cX11_keep 2 (some .boolean) 1 := ⟨⟨ml_996, ml_1, by decide, by decide, by decide +kernel⟩, by decide⟩
theorem wvL_215 : zWV RLw 215 11 yX11_keep cX11_keep 2 (some .boolean) 1 := ⟨zdL_X11_keep _ _, ml_993, ml_994, RX11, TX11, 19, rfl, ml_995⟩
theorem zdL_X12_keep (own : String) (idx : Nat) : zWd own idx yX12_keep cX12_keep 2 (some .boolean) 1 := ⟨⟨ml_1647, ml_14, by decide, by decide, by decide +kernel⟩, by decide⟩
theorem wvL_218 : zWV RLw 218 12 yX12_keep cX12_keep 2 (some .boolean) 1 := ⟨zdL_X12_keep _ _, ml_1644, ml_1645, RX12, TX12, 41, rfl, ml_1646⟩
theorem zdL_X11_again (own : String) (idx : Nat) : zWd own idx yX11_again cX11_again 2 (some .boolean) 1 := ⟨⟨ml_1000, ml_1, by decide, by decide, by decide +kernel⟩, by decide⟩
theorem wvL_219 : zWV RLw 219 11 yX11_again cX11_again 2 (some .boolean) 1 := ⟨zdL_X11_again _ _, ml_997, ml_998, RX11, TX11, 19, rfl, ml_999⟩
theorem zdL_X12_again (own : String) (idx : Nat) : zWd own idx yX12_again cX12_again 3 (some .boolean) 1 := ⟨⟨ml_1651, ml_14, by decide, by decide, by decide +kernel⟩, by decide⟩
theorem wvL_222 : zWV RLw 222 12 yX12_again cX12_again 3 (some .boolean) 1 := ⟨zdL_X12_again _ _, ml_1648, ml_1649, RX12, TX12, 41, rfl, ml_1650⟩
theorem zdL_X11_count (own : String) (idx : Nat) : zWd own idx yX11_count cX11_count 2 (some .int) 1 := ⟨⟨ml_1004, ml_1, by decide, by decide, by decide +kernel⟩, by decide⟩
theorem wvL_223 : zWV RLw 223 11 yX11_count cX11_count 2 (some .int) 1 := ⟨zdL_X11_count _ _, ml_1001, ml_1002, RX11, TX11, 19, rfl, ml_1003⟩
theorem zdL_X12_count (own : String) (idx : Nat) : zWd own idx yX12_count cX12_count 2 (some .int) 1 := ⟨⟨ml_1655, ml_14, by decide, by decide, by decide +kernel⟩, by decide⟩
theorem wvL_226 : zWV RLw 226 12 yX12_count cX12_count 2 (some .int) 1 := ⟨zdL_X12_count _ _, ml_1652, ml_1653, RX12, TX12, 41, rfl, ml_1654⟩
theorem dL_248 : decode code 248 = .ok (.aload_n 1, 1) := by decide +kernel
theorem dL_249 : decode code 249 = .ok (.aload_n 0, 1) := by decide +kernel
theorem dL_250 : decode code 250 = .ok (.iload 4, 2) := by decide +kernel
theorem dL_252 : decode code 252 = .ok (.iconst 1, 1) := by decide +kernel
theorem dL_253 : decode code 253 = .ok (.iadd, 1) := by decide +kernel
theorem dL_254 : decode code 254 = .ok (.iaload, 1) := by decide +kernel
theorem dL_255 : decode code 255 = .ok (.invokevirtual 26, 3) := by decide +kernel
theorem dL_258 : decode code 258 = .ok (.aload_n 2, 1) := by decide +kernel
theorem dL_259 : decode code 259 = .ok (.aload_n 0, 1) := by decide +kernel
theorem dL_260 : decode code 260 = .ok (.iload 4, 2) := by decide +kernel
theorem dL_262 : decode code 262 = .ok (.iconst 1, 1) := by decide +kernel
theorem dL_263 : decode code 263 = .ok (.iadd, 1) := by decide +kernel
theorem dL_264 : decode code 264 = .ok (.iaload, 1) := by decide +kernel
theorem dL_265 : decode code 265 = .ok (.invokevirtual 30, 3) := by decide +kernel
theorem dL_268 : decode code 268 = .ok (.if_icmp .eq 1297, 3) := by decide +kernel
theorem dL_273 : decode code 273 = .ok (.aload_n 1, 1) := by decide +kernel
theorem dL_274 : decode code 274 = .ok (.aload_n 0, 1) := by decide +kernel
theorem dL_275 : decode code 275 = .ok (.iload 4, 2) := by decide +kernel
theorem dL_277 : decode code 277 = .ok (.iconst 1, 1) := by decide +kernel
theorem dL_278 : decode code 278 = .ok (.iadd, 1) := by decide +kernel
theorem dL_279 : decode code 279 = .ok (.iaload, 1) := by decide +kernel
theorem dL_280 : decode code 280 = .ok (.invokevirtual 31, 3) := by decide +kernel
theorem dL_283 : decode code 283 = .ok (.aload_n 2, 1) := by decide +kernel
theorem dL_284 : decode code 284 = .ok (.aload_n 0, 1) := by decide +kernel
theorem dL_285 : decode code 285 = .ok (.iload 4, 2) := by decide +kernel
theorem dL_287 : decode code 287 = .ok (.iconst 1, 1) := by decide +kernel
theorem dL_288 : decode code 288 = .ok (.iadd, 1) := by decide +kernel
theorem dL_289 : decode code 289 = .ok (.iaload, 1) := by decide +kernel
theorem dL_290 : decode code 290 = .ok (.invokevirtual 35, 3) := by decide +kernel
theorem dL_293 : decode code 293 = .ok (.if_icmp .eq 1272, 3) := by decide +kernel
theorem dL_298 : decode code 298 = .ok (.aload_n 1, 1) := by decide +kernel
theorem dL_299 : decode code 299 = .ok (.invokevirtual 36, 3) := by decide +kernel
theorem dL_302 : decode code 302 = .ok (.aload_n 2, 1) := by decide +kernel
theorem dL_303 : decode code 303 = .ok (.invokevirtual 40, 3) := by decide +kernel
theorem dL_306 : decode code 306 = .ok (.if_icmp .eq 1259, 3) := by decide +kernel
theorem dL_311 : decode code 311 = .ok (.aload_n 1, 1) := by decide +kernel
theorem dL_312 : decode code 312 = .ok (.invokevirtual 41, 3) := by decide +kernel
theorem dL_315 : decode code 315 = .ok (.aload_n 2, 1) := by decide +kernel
theorem dL_316 : decode code 316 = .ok (.invokevirtual 44, 3) := by decide +kernel
theorem dL_319 : decode code 319 = .ok (.if_icmp .eq 1246, 3) := by decide +kernel
theorem dL_324 : decode code 324 = .ok (.aload_n 1, 1) := by decide +kernel
theorem dL_325 : decode code 325 = .ok (.invokevirtual 45, 3) := by decide +kernel
theorem dL_328 : decode code 328 = .ok (.aload_n 2, 1) := by decide +kernel
theorem dL_329 : decode code 329 = .ok (.invokevirtual 48, 3) := by decide +kernel
theorem dL_332 : decode code 332 = .ok (.if_icmp .eq 1233, 3) := by decide +kernel
theorem dL_473 : decode code 473 = .ok (.aload_n 1, 1) := by decide +kernel
theorem dL_474 : decode code 474 = .ok (.aload_n 0, 1) := by decide +kernel
theorem dL_475 : decode code 475 = .ok (.iload 4, 2) := by decide +kernel
theorem dL_477 : decode code 477 = .ok (.iconst 1, 1) := by decide +kernel
theorem dL_478 : decode code 478 = .ok (.iadd, 1) := by decide +kernel
theorem dL_479 : decode code 479 = .ok (.iaload, 1) := by decide +kernel
theorem dL_480 : decode code 480 = .ok (.aload_n 0, 1) := by decide +kernel
theorem dL_481 : decode code 481 = .ok (.iload 4, 2) := by decide +kernel
theorem dL_483 : decode code 483 = .ok (.iconst 2, 1) := by decide +kernel
theorem dL_484 : decode code 484 = .ok (.iadd, 1) := by decide +kernel
theorem dL_485 : decode code 485 = .ok (.iaload, 1) := by decide +kernel
theorem dL_486 : decode code 486 = .ok (.invokevirtual 61, 3) := by decide +kernel
theorem dL_489 : decode code 489 = .ok (.aload_n 2, 1) := by decide +kernel
theorem dL_490 : decode code 490 = .ok (.aload_n 0, 1) := by decide +kernel
theorem dL_491 : decode code 491 = .ok (.iload 4, 2) := by decide +kernel
theorem dL_493 : decode code 493 = .ok (.iconst 1, 1) := by decide +kernel
theorem dL_494 : decode code 494 = .ok (.iadd, 1) := by decide +kernel
theorem dL_495 : decode code 495 = .ok (.iaload, 1) := by decide +kernel
theorem dL_496 : decode code 496 = .ok (.aload_n 0, 1) := by decide +kernel
theorem dL_497 : decode code 497 = .ok (.iload 4, 2) := by decide +kernel
theorem dL_499 : decode code 499 = .ok (.iconst 2, 1) := by decide +kernel
theorem dL_500 : decode code 500 = .ok (.iadd, 1) := by decide +kernel
theorem dL_501 : decode code 501 = .ok (.iaload, 1) := by decide +kernel
theorem dL_502 : decode code 502 = .ok (.invokevirtual 64, 3) := by decide +kernel
theorem dL_505 : decode code 505 = .ok (.if_icmp .eq 1060, 3) := by decide +kernel
theorem dL_510 : decode code 510 = .ok (.aload_n 1, 1) := by decide +kernel
theorem dL_511 : decode code 511 = .ok (.aload_n 0, 1) := by decide +kernel
theorem dL_512 : decode code 512 = .ok (.iload 4, 2) := by decide +kernel
theorem dL_514 : decode code 514 = .ok (.iconst 1, 1) := by decide +kernel
theorem dL_515 : decode code 515 = .ok (.iadd, 1) := by decide +kernel
theorem dL_516 : decode code 516 = .ok (.iaload, 1) := by decide +kernel
theorem dL_517 : decode code 517 = .ok (.aload_n 0, 1) := by decide +kernel
theorem dL_518 : decode code 518 = .ok (.iload 4, 2) := by decide +kernel
theorem dL_520 : decode code 520 = .ok (.iconst 2, 1) := by decide +kernel
theorem dL_521 : decode code 521 = .ok (.iadd, 1) := by decide +kernel
theorem dL_522 : decode code 522 = .ok (.iaload, 1) := by decide +kernel
theorem dL_523 : decode code 523 = .ok (.aload_n 0, 1) := by decide +kernel
theorem dL_524 : decode code 524 = .ok (.iload 4, 2) := by decide +kernel
theorem dL_526 : decode code 526 = .ok (.iconst 3, 1) := by decide +kernel
theorem dL_527 : decode code 527 = .ok (.iadd, 1) := by decide +kernel
theorem dL_528 : decode code 528 = .ok (.iaload, 1) := by decide +kernel
theorem dL_529 : decode code 529 = .ok (.aload_n 0, 1) := by decide +kernel
theorem dL_530 : decode code 530 = .ok (.iload 4, 2) := by decide +kernel
theorem dL_532 : decode code 532 = .ok (.iconst 4, 1) := by decide +kernel
theorem dL_533 : decode code 533 = .ok (.iadd, 1) := by decide +kernel
theorem dL_534 : decode code 534 = .ok (.iaload, 1) := by decide +kernel
theorem dL_535 : decode code 535 = .ok (.invokevirtual 65, 3) := by decide +kernel
theorem dL_538 : decode code 538 = .ok (.aload_n 2, 1) := by decide +kernel
theorem dL_539 : decode code 539 = .ok (.aload_n 0, 1) := by decide +kernel
theorem dL_540 : decode code 540 = .ok (.iload 4, 2) := by decide +kernel
theorem dL_542 : decode code 542 = .ok (.iconst 1, 1) := by decide +kernel
theorem dL_543 : decode code 543 = .ok (.iadd, 1) := by decide +kernel
theorem dL_544 : decode code 544 = .ok (.iaload, 1) := by decide +kernel
theorem dL_545 : decode code 545 = .ok (.aload_n 0, 1) := by decide +kernel
theorem dL_546 : decode code 546 = .ok (.iload 4, 2) := by decide +kernel
theorem dL_548 : decode code 548 = .ok (.iconst 2, 1) := by decide +kernel
theorem dL_549 : decode code 549 = .ok (.iadd, 1) := by decide +kernel
theorem dL_550 : decode code 550 = .ok (.iaload, 1) := by decide +kernel
theorem dL_551 : decode code 551 = .ok (.aload_n 0, 1) := by decide +kernel
theorem dL_552 : decode code 552 = .ok (.iload 4, 2) := by decide +kernel
theorem dL_554 : decode code 554 = .ok (.iconst 3, 1) := by decide +kernel
theorem dL_555 : decode code 555 = .ok (.iadd, 1) := by decide +kernel
theorem dL_556 : decode code 556 = .ok (.iaload, 1) := by decide +kernel
theorem dL_557 : decode code 557 = .ok (.aload_n 0, 1) := by decide +kernel
theorem dL_558 : decode code 558 = .ok (.iload 4, 2) := by decide +kernel
theorem dL_560 : decode code 560 = .ok (.iconst 4, 1) := by decide +kernel
theorem dL_561 : decode code 561 = .ok (.iadd, 1) := by decide +kernel
theorem dL_562 : decode code 562 = .ok (.iaload, 1) := by decide +kernel
theorem dL_563 : decode code 563 = .ok (.invokevirtual 69, 3) := by decide +kernel
theorem dL_566 : decode code 566 = .ok (.if_icmp .eq 999, 3) := by decide +kernel
theorem dL_571 : decode code 571 = .ok (.aload_n 1, 1) := by decide +kernel
theorem dL_572 : decode code 572 = .ok (.aload_n 0, 1) := by decide +kernel
theorem dL_573 : decode code 573 = .ok (.iload 4, 2) := by decide +kernel
theorem dL_575 : decode code 575 = .ok (.iconst 1, 1) := by decide +kernel
theorem dL_576 : decode code 576 = .ok (.iadd, 1) := by decide +kernel
theorem dL_577 : decode code 577 = .ok (.iaload, 1) := by decide +kernel
theorem dL_578 : decode code 578 = .ok (.aload_n 0, 1) := by decide +kernel
theorem dL_579 : decode code 579 = .ok (.iload 4, 2) := by decide +kernel
theorem dL_581 : decode code 581 = .ok (.iconst 2, 1) := by decide +kernel
theorem dL_582 : decode code 582 = .ok (.iadd, 1) := by decide +kernel
theorem dL_583 : decode code 583 = .ok (.iaload, 1) := by decide +kernel
theorem dL_584 : decode code 584 = .ok (.invokevirtual 70, 3) := by decide +kernel
theorem dL_587 : decode code 587 = .ok (.aload_n 2, 1) := by decide +kernel
theorem dL_588 : decode code 588 = .ok (.aload_n 0, 1) := by decide +kernel
theorem dL_589 : decode code 589 = .ok (.iload 4, 2) := by decide +kernel
theorem dL_591 : decode code 591 = .ok (.iconst 1, 1) := by decide +kernel
theorem dL_592 : decode code 592 = .ok (.iadd, 1) := by decide +kernel
theorem dL_593 : decode code 593 = .ok (.iaload, 1) := by decide +kernel
theorem dL_594 : decode code 594 = .ok (.aload_n 0, 1) := by decide +kernel
theorem dL_595 : decode code 595 = .ok (.iload 4, 2) := by decide +kernel
theorem dL_597 : decode code 597 = .ok (.iconst 2, 1) := by decide +kernel
theorem dL_598 : decode code 598 = .ok (.iadd, 1) := by decide +kernel
theorem dL_599 : decode code 599 = .ok (.iaload, 1) := by decide +kernel
theorem dL_600 : decode code 600 = .ok (.invokevirtual 73, 3) := by decide +kernel
theorem dL_603 : decode code 603 = .ok (.if_icmp .eq 962, 3) := by decide +kernel
theorem dL_608 : decode code 608 = .ok (.aload_n 1, 1) := by decide +kernel
theorem dL_609 : decode code 609 = .ok (.aload_n 0, 1) := by decide +kernel
theorem dL_610 : decode code 610 = .ok (.iload 4, 2) := by decide +kernel
theorem dL_612 : decode code 612 = .ok (.iconst 1, 1) := by decide +kernel
theorem dL_613 : decode code 613 = .ok (.iadd, 1) := by decide +kernel
theorem dL_614 : decode code 614 = .ok (.iaload, 1) := by decide +kernel
theorem dL_615 : decode code 615 = .ok (.aload_n 0, 1) := by decide +kernel
theorem dL_616 : decode code 616 = .ok (.iload 4, 2) := by decide +kernel
theorem dL_618 : decode code 618 = .ok (.iconst 2, 1) := by decide +kernel
theorem dL_619 : decode code 619 = .ok (.iadd, 1) := by decide +kernel
theorem dL_620 : decode code 620 = .ok (.iaload, 1) := by decide +kernel
theorem dL_621 : decode code 621 = .ok (.invokevirtual 74, 3) := by decide +kernel
theorem dL_624 : decode code 624 = .ok (.aload_n 2, 1) := by decide +kernel
theorem dL_625 : decode code 625 = .ok (.aload_n 0, 1) := by decide +kernel
theorem dL_626 : decode code 626 = .ok (.iload 4, 2) := by decide +kernel
theorem dL_628 : decode code 628 = .ok (.iconst 1, 1) := by decide +kernel
theorem dL_629 : decode code 629 = .ok (.iadd, 1) := by decide +kernel
theorem dL_630 : decode code 630 = .ok (.iaload, 1) := by decide +kernel
theorem dL_631 : decode code 631 = .ok (.aload_n 0, 1) := by decide +kernel
theorem dL_632 : decode code 632 = .ok (.iload 4, 2) := by decide +kernel
theorem dL_634 : decode code 634 = .ok (.iconst 2, 1) := by decide +kernel
theorem dL_635 : decode code 635 = .ok (.iadd, 1) := by decide +kernel
theorem dL_636 : decode code 636 = .ok (.iaload, 1) := by decide +kernel
theorem dL_637 : decode code 637 = .ok (.invokevirtual 77, 3) := by decide +kernel
theorem dL_640 : decode code 640 = .ok (.if_icmp .eq 925, 3) := by decide +kernel
theorem dL_645 : decode code 645 = .ok (.aload_n 1, 1) := by decide +kernel
theorem dL_646 : decode code 646 = .ok (.aload_n 0, 1) := by decide +kernel
theorem dL_647 : decode code 647 = .ok (.iload 4, 2) := by decide +kernel
theorem dL_649 : decode code 649 = .ok (.iconst 1, 1) := by decide +kernel
theorem dL_650 : decode code 650 = .ok (.iadd, 1) := by decide +kernel
theorem dL_651 : decode code 651 = .ok (.iaload, 1) := by decide +kernel
theorem dL_652 : decode code 652 = .ok (.aload_n 0, 1) := by decide +kernel
theorem dL_653 : decode code 653 = .ok (.iload 4, 2) := by decide +kernel
theorem dL_655 : decode code 655 = .ok (.iconst 2, 1) := by decide +kernel
theorem dL_656 : decode code 656 = .ok (.iadd, 1) := by decide +kernel
theorem dL_657 : decode code 657 = .ok (.iaload, 1) := by decide +kernel
theorem dL_658 : decode code 658 = .ok (.invokevirtual 78, 3) := by decide +kernel
theorem dL_661 : decode code 661 = .ok (.aload_n 2, 1) := by decide +kernel
theorem dL_662 : decode code 662 = .ok (.aload_n 0, 1) := by decide +kernel
theorem dL_663 : decode code 663 = .ok (.iload 4, 2) := by decide +kernel
theorem dL_665 : decode code 665 = .ok (.iconst 1, 1) := by decide +kernel
theorem dL_666 : decode code 666 = .ok (.iadd, 1) := by decide +kernel
theorem dL_667 : decode code 667 = .ok (.iaload, 1) := by decide +kernel
theorem dL_668 : decode code 668 = .ok (.aload_n 0, 1) := by decide +kernel
theorem dL_669 : decode code 669 = .ok (.iload 4, 2) := by decide +kernel
theorem dL_671 : decode code 671 = .ok (.iconst 2, 1) := by decide +kernel
theorem dL_672 : decode code 672 = .ok (.iadd, 1) := by decide +kernel
theorem dL_673 : decode code 673 = .ok (.iaload, 1) := by decide +kernel
theorem dL_674 : decode code 674 = .ok (.invokevirtual 81, 3) := by decide +kernel
theorem dL_677 : decode code 677 = .ok (.if_icmp .eq 888, 3) := by decide +kernel
theorem dL_682 : decode code 682 = .ok (.aload_n 1, 1) := by decide +kernel
theorem dL_683 : decode code 683 = .ok (.aload_n 0, 1) := by decide +kernel
theorem dL_684 : decode code 684 = .ok (.iload 4, 2) := by decide +kernel
theorem dL_686 : decode code 686 = .ok (.iconst 1, 1) := by decide +kernel
theorem dL_687 : decode code 687 = .ok (.iadd, 1) := by decide +kernel
theorem dL_688 : decode code 688 = .ok (.iaload, 1) := by decide +kernel
theorem dL_689 : decode code 689 = .ok (.aload_n 0, 1) := by decide +kernel
theorem dL_690 : decode code 690 = .ok (.iload 4, 2) := by decide +kernel
theorem dL_692 : decode code 692 = .ok (.iconst 2, 1) := by decide +kernel
theorem dL_693 : decode code 693 = .ok (.iadd, 1) := by decide +kernel
theorem dL_694 : decode code 694 = .ok (.iaload, 1) := by decide +kernel
theorem dL_695 : decode code 695 = .ok (.invokevirtual 82, 3) := by decide +kernel
theorem dL_698 : decode code 698 = .ok (.aload_n 2, 1) := by decide +kernel
theorem dL_699 : decode code 699 = .ok (.aload_n 0, 1) := by decide +kernel
theorem dL_700 : decode code 700 = .ok (.iload 4, 2) := by decide +kernel
theorem dL_702 : decode code 702 = .ok (.iconst 1, 1) := by decide +kernel
theorem dL_703 : decode code 703 = .ok (.iadd, 1) := by decide +kernel
theorem dL_704 : decode code 704 = .ok (.iaload, 1) := by decide +kernel
theorem dL_705 : decode code 705 = .ok (.aload_n 0, 1) := by decide +kernel
theorem dL_706 : decode code 706 = .ok (.iload 4, 2) := by decide +kernel
theorem dL_708 : decode code 708 = .ok (.iconst 2, 1) := by decide +kernel
theorem dL_709 : decode code 709 = .ok (.iadd, 1) := by decide +kernel
theorem dL_710 : decode code 710 = .ok (.iaload, 1) := by decide +kernel
theorem dL_711 : decode code 711 = .ok (.invokevirtual 85, 3) := by decide +kernel
theorem dL_714 : decode code 714 = .ok (.if_icmp .eq 851, 3) := by decide +kernel
theorem dL_719 : decode code 719 = .ok (.aload_n 1, 1) := by decide +kernel
theorem dL_720 : decode code 720 = .ok (.aload_n 0, 1) := by decide +kernel
theorem dL_721 : decode code 721 = .ok (.iload 4, 2) := by decide +kernel
theorem dL_723 : decode code 723 = .ok (.iconst 1, 1) := by decide +kernel
theorem dL_724 : decode code 724 = .ok (.iadd, 1) := by decide +kernel
theorem dL_725 : decode code 725 = .ok (.iaload, 1) := by decide +kernel
theorem dL_726 : decode code 726 = .ok (.invokevirtual 86, 3) := by decide +kernel
theorem dL_729 : decode code 729 = .ok (.aload_n 2, 1) := by decide +kernel
theorem dL_730 : decode code 730 = .ok (.aload_n 0, 1) := by decide +kernel
theorem dL_731 : decode code 731 = .ok (.iload 4, 2) := by decide +kernel
theorem dL_733 : decode code 733 = .ok (.iconst 1, 1) := by decide +kernel
theorem dL_734 : decode code 734 = .ok (.iadd, 1) := by decide +kernel
theorem dL_735 : decode code 735 = .ok (.iaload, 1) := by decide +kernel
theorem dL_736 : decode code 736 = .ok (.invokevirtual 89, 3) := by decide +kernel
theorem dL_739 : decode code 739 = .ok (.if_icmp .eq 826, 3) := by decide +kernel
theorem dL_744 : decode code 744 = .ok (.aload_n 1, 1) := by decide +kernel
theorem dL_745 : decode code 745 = .ok (.invokevirtual 90, 3) := by decide +kernel
theorem dL_748 : decode code 748 = .ok (.aload_n 2, 1) := by decide +kernel
theorem dL_749 : decode code 749 = .ok (.invokevirtual 93, 3) := by decide +kernel
theorem dL_752 : decode code 752 = .ok (.if_icmp .eq 813, 3) := by decide +kernel
theorem dL_757 : decode code 757 = .ok (.aload_n 1, 1) := by decide +kernel
theorem dL_758 : decode code 758 = .ok (.invokevirtual 94, 3) := by decide +kernel
theorem dL_761 : decode code 761 = .ok (.aload_n 2, 1) := by decide +kernel
theorem dL_762 : decode code 762 = .ok (.invokevirtual 97, 3) := by decide +kernel
theorem dL_765 : decode code 765 = .ok (.if_icmp .eq 800, 3) := by decide +kernel
theorem dL_770 : decode code 770 = .ok (.aload_n 1, 1) := by decide +kernel
theorem dL_771 : decode code 771 = .ok (.aload_n 0, 1) := by decide +kernel
theorem dL_772 : decode code 772 = .ok (.iload 4, 2) := by decide +kernel
theorem dL_774 : decode code 774 = .ok (.iconst 1, 1) := by decide +kernel
theorem dL_775 : decode code 775 = .ok (.iadd, 1) := by decide +kernel
theorem dL_776 : decode code 776 = .ok (.iaload, 1) := by decide +kernel
theorem dL_777 : decode code 777 = .ok (.aload_n 0, 1) := by decide +kernel
theorem dL_778 : decode code 778 = .ok (.iload 4, 2) := by decide +kernel
theorem dL_780 : decode code 780 = .ok (.iconst 2, 1) := by decide +kernel
theorem dL_781 : decode code 781 = .ok (.iadd, 1) := by decide +kernel
theorem dL_782 : decode code 782 = .ok (.iaload, 1) := by decide +kernel
theorem dL_783 : decode code 783 = .ok (.invokevirtual 98, 3) := by decide +kernel
theorem dL_786 : decode code 786 = .ok (.aload_n 2, 1) := by decide +kernel
theorem dL_787 : decode code 787 = .ok (.aload_n 0, 1) := by decide +kernel
theorem dL_788 : decode code 788 = .ok (.iload 4, 2) := by decide +kernel
theorem dL_790 : decode code 790 = .ok (.iconst 1, 1) := by decide +kernel
theorem dL_791 : decode code 791 = .ok (.iadd, 1) := by decide +kernel
theorem dL_792 : decode code 792 = .ok (.iaload, 1) := by decide +kernel
theorem dL_793 : decode code 793 = .ok (.aload_n 0, 1) := by decide +kernel
theorem dL_794 : decode code 794 = .ok (.iload 4, 2) := by decide +kernel
theorem dL_796 : decode code 796 = .ok (.iconst 2, 1) := by decide +kernel
theorem dL_797 : decode code 797 = .ok (.iadd, 1) := by decide +kernel
theorem dL_798 : decode code 798 = .ok (.iaload, 1) := by decide +kernel
theorem dL_799 : decode code 799 = .ok (.invokevirtual 101, 3) := by decide +kernel
theorem dL_802 : decode code 802 = .ok (.if_icmp .eq 763, 3) := by decide +kernel
theorem dL_807 : decode code 807 = .ok (.aload_n 1, 1) := by decide +kernel
theorem dL_808 : decode code 808 = .ok (.aload_n 0, 1) := by decide +kernel
theorem dL_809 : decode code 809 = .ok (.iload 4, 2) := by decide +kernel
theorem dL_811 : decode code 811 = .ok (.iconst 1, 1) := by decide +kernel
theorem dL_812 : decode code 812 = .ok (.iadd, 1) := by decide +kernel
theorem dL_813 : decode code 813 = .ok (.iaload, 1) := by decide +kernel
theorem dL_814 : decode code 814 = .ok (.invokevirtual 102, 3) := by decide +kernel
theorem dL_817 : decode code 817 = .ok (.aload_n 2, 1) := by decide +kernel
theorem dL_818 : decode code 818 = .ok (.aload_n 0, 1) := by decide +kernel
theorem dL_819 : decode code 819 = .ok (.iload 4, 2) := by decide +kernel
theorem dL_821 : decode code 821 = .ok (.iconst 1, 1) := by decide +kernel
theorem dL_822 : decode code 822 = .ok (.iadd, 1) := by decide +kernel
theorem dL_823 : decode code 823 = .ok (.iaload, 1) := by decide +kernel
theorem dL_824 : decode code 824 = .ok (.invokevirtual 105, 3) := by decide +kernel
theorem dL_827 : decode code 827 = .ok (.if_icmp .eq 738, 3) := by decide +kernel
theorem dL_832 : decode code 832 = .ok (.aload_n 1, 1) := by decide +kernel
theorem dL_833 : decode code 833 = .ok (.aload_n 0, 1) := by decide +kernel
theorem dL_834 : decode code 834 = .ok (.iload 4, 2) := by decide +kernel
theorem dL_836 : decode code 836 = .ok (.iconst 1, 1) := by decide +kernel
theorem dL_837 : decode code 837 = .ok (.iadd, 1) := by decide +kernel
theorem dL_838 : decode code 838 = .ok (.iaload, 1) := by decide +kernel
theorem dL_839 : decode code 839 = .ok (.invokevirtual 106, 3) := by decide +kernel
theorem dL_842 : decode code 842 = .ok (.aload_n 2, 1) := by decide +kernel
theorem dL_843 : decode code 843 = .ok (.aload_n 0, 1) := by decide +kernel
theorem dL_844 : decode code 844 = .ok (.iload 4, 2) := by decide +kernel
theorem dL_846 : decode code 846 = .ok (.iconst 1, 1) := by decide +kernel
theorem dL_847 : decode code 847 = .ok (.iadd, 1) := by decide +kernel
theorem dL_848 : decode code 848 = .ok (.iaload, 1) := by decide +kernel
theorem dL_849 : decode code 849 = .ok (.invokevirtual 109, 3) := by decide +kernel
theorem dL_852 : decode code 852 = .ok (.if_icmp .eq 713, 3) := by decide +kernel
theorem dL_857 : decode code 857 = .ok (.aload_n 1, 1) := by decide +kernel
theorem dL_858 : decode code 858 = .ok (.aload_n 0, 1) := by decide +kernel
theorem dL_859 : decode code 859 = .ok (.iload 4, 2) := by decide +kernel
theorem dL_861 : decode code 861 = .ok (.iconst 1, 1) := by decide +kernel
theorem dL_862 : decode code 862 = .ok (.iadd, 1) := by decide +kernel
theorem dL_863 : decode code 863 = .ok (.iaload, 1) := by decide +kernel
theorem dL_864 : decode code 864 = .ok (.invokevirtual 110, 3) := by decide +kernel
theorem dL_867 : decode code 867 = .ok (.aload_n 2, 1) := by decide +kernel
theorem dL_868 : decode code 868 = .ok (.aload_n 0, 1) := by decide +kernel
theorem dL_869 : decode code 869 = .ok (.iload 4, 2) := by decide +kernel
theorem dL_871 : decode code 871 = .ok (.iconst 1, 1) := by decide +kernel
theorem dL_872 : decode code 872 = .ok (.iadd, 1) := by decide +kernel
theorem dL_873 : decode code 873 = .ok (.iaload, 1) := by decide +kernel
theorem dL_874 : decode code 874 = .ok (.invokevirtual 113, 3) := by decide +kernel
theorem dL_877 : decode code 877 = .ok (.if_icmp .eq 688, 3) := by decide +kernel
theorem dL_882 : decode code 882 = .ok (.aload_n 1, 1) := by decide +kernel
theorem dL_883 : decode code 883 = .ok (.invokevirtual 114, 3) := by decide +kernel
theorem dL_886 : decode code 886 = .ok (.aload_n 2, 1) := by decide +kernel
theorem dL_887 : decode code 887 = .ok (.invokevirtual 117, 3) := by decide +kernel
theorem dL_890 : decode code 890 = .ok (.if_icmp .eq 675, 3) := by decide +kernel
theorem dL_895 : decode code 895 = .ok (.aload_n 1, 1) := by decide +kernel
theorem dL_896 : decode code 896 = .ok (.aload_n 0, 1) := by decide +kernel
theorem dL_897 : decode code 897 = .ok (.iload 4, 2) := by decide +kernel
theorem dL_899 : decode code 899 = .ok (.iconst 1, 1) := by decide +kernel
theorem dL_900 : decode code 900 = .ok (.iadd, 1) := by decide +kernel
theorem dL_901 : decode code 901 = .ok (.iaload, 1) := by decide +kernel
theorem dL_902 : decode code 902 = .ok (.invokevirtual 118, 3) := by decide +kernel
theorem dL_905 : decode code 905 = .ok (.aload_n 2, 1) := by decide +kernel
theorem dL_906 : decode code 906 = .ok (.aload_n 0, 1) := by decide +kernel
theorem dL_907 : decode code 907 = .ok (.iload 4, 2) := by decide +kernel
theorem dL_909 : decode code 909 = .ok (.iconst 1, 1) := by decide +kernel
theorem dL_910 : decode code 910 = .ok (.iadd, 1) := by decide +kernel
theorem dL_911 : decode code 911 = .ok (.iaload, 1) := by decide +kernel
theorem dL_912 : decode code 912 = .ok (.invokevirtual 121, 3) := by decide +kernel
theorem dL_915 : decode code 915 = .ok (.if_icmp .eq 650, 3) := by decide +kernel
theorem dL_920 : decode code 920 = .ok (.aload_n 1, 1) := by decide +kernel
theorem dL_921 : decode code 921 = .ok (.aload_n 0, 1) := by decide +kernel
theorem dL_922 : decode code 922 = .ok (.iload 4, 2) := by decide +kernel
theorem dL_924 : decode code 924 = .ok (.iconst 1, 1) := by decide +kernel
theorem dL_925 : decode code 925 = .ok (.iadd, 1) := by decide +kernel
theorem dL_926 : decode code 926 = .ok (.iaload, 1) := by decide +kernel
theorem dL_927 : decode code 927 = .ok (.invokevirtual 122, 3) := by decide +kernel
theorem dL_930 : decode code 930 = .ok (.aload_n 2, 1) := by decide +kernel
theorem dL_931 : decode code 931 = .ok (.aload_n 0, 1) := by decide +kernel
theorem dL_932 : decode code 932 = .ok (.iload 4, 2) := by decide +kernel
theorem dL_934 : decode code 934 = .ok (.iconst 1, 1) := by decide +kernel
theorem dL_935 : decode code 935 = .ok (.iadd, 1) := by decide +kernel
theorem dL_936 : decode code 936 = .ok (.iaload, 1) := by decide +kernel
theorem dL_937 : decode code 937 = .ok (.invokevirtual 125, 3) := by decide +kernel
theorem dL_940 : decode code 940 = .ok (.if_icmp .eq 625, 3) := by decide +kernel
theorem dL_945 : decode code 945 = .ok (.aload_n 1, 1) := by decide +kernel
theorem dL_946 : decode code 946 = .ok (.invokevirtual 126, 3) := by decide +kernel
theorem dL_949 : decode code 949 = .ok (.aload_n 2, 1) := by decide +kernel
theorem dL_950 : decode code 950 = .ok (.invokevirtual 129, 3) := by decide +kernel
theorem dL_953 : decode code 953 = .ok (.if_icmp .eq 612, 3) := by decide +kernel
theorem dL_958 : decode code 958 = .ok (.aload_n 1, 1) := by decide +kernel
theorem dL_959 : decode code 959 = .ok (.invokevirtual 130, 3) := by decide +kernel
theorem dL_962 : decode code 962 = .ok (.aload_n 2, 1) := by decide +kernel
theorem dL_963 : decode code 963 = .ok (.invokevirtual 133, 3) := by decide +kernel
theorem dL_966 : decode code 966 = .ok (.if_icmp .eq 599, 3) := by decide +kernel
theorem dL_971 : decode code 971 = .ok (.aload_n 1, 1) := by decide +kernel
theorem dL_972 : decode code 972 = .ok (.aload_n 0, 1) := by decide +kernel
theorem dL_973 : decode code 973 = .ok (.iload 4, 2) := by decide +kernel
theorem dL_975 : decode code 975 = .ok (.iconst 1, 1) := by decide +kernel
theorem dL_976 : decode code 976 = .ok (.iadd, 1) := by decide +kernel
theorem dL_977 : decode code 977 = .ok (.iaload, 1) := by decide +kernel
theorem dL_978 : decode code 978 = .ok (.invokevirtual 134, 3) := by decide +kernel
theorem dL_981 : decode code 981 = .ok (.aload_n 2, 1) := by decide +kernel
theorem dL_982 : decode code 982 = .ok (.aload_n 0, 1) := by decide +kernel
theorem dL_983 : decode code 983 = .ok (.iload 4, 2) := by decide +kernel
theorem dL_985 : decode code 985 = .ok (.iconst 1, 1) := by decide +kernel
theorem dL_986 : decode code 986 = .ok (.iadd, 1) := by decide +kernel
theorem dL_987 : decode code 987 = .ok (.iaload, 1) := by decide +kernel
theorem dL_988 : decode code 988 = .ok (.invokevirtual 137, 3) := by decide +kernel
theorem dL_991 : decode code 991 = .ok (.if_icmp .eq 574, 3) := by decide +kernel
theorem dL_996 : decode code 996 = .ok (.aload_n 1, 1) := by decide +kernel
theorem dL_997 : decode code 997 = .ok (.aload_n 0, 1) := by decide +kernel
theorem dL_998 : decode code 998 = .ok (.iload 4, 2) := by decide +kernel
theorem dL_1000 : decode code 1000 = .ok (.iconst 1, 1) := by decide +kernel
theorem dL_1001 : decode code 1001 = .ok (.iadd, 1) := by decide +kernel
theorem dL_1002 : decode code 1002 = .ok (.iaload, 1) := by decide +kernel
theorem dL_1003 : decode code 1003 = .ok (.invokevirtual 138, 3) := by decide +kernel
theorem dL_1006 : decode code 1006 = .ok (.aload_n 2, 1) := by decide +kernel
theorem dL_1007 : decode code 1007 = .ok (.aload_n 0, 1) := by decide +kernel
theorem dL_1008 : decode code 1008 = .ok (.iload 4, 2) := by decide +kernel
theorem dL_1010 : decode code 1010 = .ok (.iconst 1, 1) := by decide +kernel
theorem dL_1011 : decode code 1011 = .ok (.iadd, 1) := by decide +kernel
theorem dL_1012 : decode code 1012 = .ok (.iaload, 1) := by decide +kernel
theorem dL_1013 : decode code 1013 = .ok (.invokevirtual 141, 3) := by decide +kernel
theorem dL_1016 : decode code 1016 = .ok (.if_icmp .eq 549, 3) := by decide +kernel
theorem dL_1021 : decode code 1021 = .ok (.aload_n 1, 1) := by decide +kernel
theorem dL_1022 : decode code 1022 = .ok (.aload_n 0, 1) := by decide +kernel
theorem dL_1023 : decode code 1023 = .ok (.iload 4, 2) := by decide +kernel
theorem dL_1025 : decode code 1025 = .ok (.iconst 1, 1) := by decide +kernel
theorem dL_1026 : decode code 1026 = .ok (.iadd, 1) := by decide +kernel
theorem dL_1027 : decode code 1027 = .ok (.iaload, 1) := by decide +kernel
theorem dL_1028 : decode code 1028 = .ok (.aload_n 0, 1) := by decide +kernel
theorem dL_1029 : decode code 1029 = .ok (.iload 4, 2) := by decide +kernel
theorem dL_1031 : decode code 1031 = .ok (.iconst 2, 1) := by decide +kernel
theorem dL_1032 : decode code 1032 = .ok (.iadd, 1) := by decide +kernel
theorem dL_1033 : decode code 1033 = .ok (.iaload, 1) := by decide +kernel
theorem dL_1034 : decode code 1034 = .ok (.invokevirtual 142, 3) := by decide +kernel
theorem dL_1037 : decode code 1037 = .ok (.aload_n 2, 1) := by decide +kernel
theorem dL_1038 : decode code 1038 = .ok (.aload_n 0, 1) := by decide +kernel
theorem dL_1039 : decode code 1039 = .ok (.iload 4, 2) := by decide +kernel
theorem dL_1041 : decode code 1041 = .ok (.iconst 1, 1) := by decide +kernel
theorem dL_1042 : decode code 1042 = .ok (.iadd, 1) := by decide +kernel
theorem dL_1043 : decode code 1043 = .ok (.iaload, 1) := by decide +kernel
theorem dL_1044 : decode code 1044 = .ok (.aload_n 0, 1) := by decide +kernel
theorem dL_1045 : decode code 1045 = .ok (.iload 4, 2) := by decide +kernel
theorem dL_1047 : decode code 1047 = .ok (.iconst 2, 1) := by decide +kernel
theorem dL_1048 : decode code 1048 = .ok (.iadd, 1) := by decide +kernel
theorem dL_1049 : decode code 1049 = .ok (.iaload, 1) := by decide +kernel
theorem dL_1050 : decode code 1050 = .ok (.invokevirtual 145, 3) := by decide +kernel
theorem dL_1053 : decode code 1053 = .ok (.if_icmp .eq 512, 3) := by decide +kernel
theorem dL_1058 : decode code 1058 = .ok (.aload_n 1, 1) := by decide +kernel
theorem dL_1059 : decode code 1059 = .ok (.invokevirtual 146, 3) := by decide +kernel
theorem dL_1062 : decode code 1062 = .ok (.aload_n 2, 1) := by decide +kernel
theorem dL_1063 : decode code 1063 = .ok (.invokevirtual 149, 3) := by decide +kernel
theorem dL_1066 : decode code 1066 = .ok (.if_icmp .eq 499, 3) := by decide +kernel
theorem dL_1071 : decode code 1071 = .ok (.aload_n 1, 1) := by decide +kernel
theorem dL_1072 : decode code 1072 = .ok (.invokevirtual 150, 3) := by decide +kernel
theorem dL_1075 : decode code 1075 = .ok (.aload_n 2, 1) := by decide +kernel
theorem dL_1076 : decode code 1076 = .ok (.invokevirtual 153, 3) := by decide +kernel
theorem dL_1079 : decode code 1079 = .ok (.if_icmp .eq 486, 3) := by decide +kernel
theorem dL_1084 : decode code 1084 = .ok (.aload_n 1, 1) := by decide +kernel
theorem dL_1085 : decode code 1085 = .ok (.invokevirtual 154, 3) := by decide +kernel
theorem dL_1088 : decode code 1088 = .ok (.aload_n 2, 1) := by decide +kernel
theorem dL_1089 : decode code 1089 = .ok (.invokevirtual 157, 3) := by decide +kernel
theorem dL_1092 : decode code 1092 = .ok (.if_icmp .eq 473, 3) := by decide +kernel
theorem dL_1097 : decode code 1097 = .ok (.aload_n 1, 1) := by decide +kernel
theorem dL_1098 : decode code 1098 = .ok (.invokevirtual 158, 3) := by decide +kernel
theorem dL_1101 : decode code 1101 = .ok (.aload_n 2, 1) := by decide +kernel
theorem dL_1102 : decode code 1102 = .ok (.invokevirtual 161, 3) := by decide +kernel
theorem dL_1105 : decode code 1105 = .ok (.if_icmp .eq 460, 3) := by decide +kernel
theorem dL_1110 : decode code 1110 = .ok (.aload_n 1, 1) := by decide +kernel
theorem dL_1111 : decode code 1111 = .ok (.invokevirtual 162, 3) := by decide +kernel
theorem dL_1114 : decode code 1114 = .ok (.aload_n 2, 1) := by decide +kernel
theorem dL_1115 : decode code 1115 = .ok (.invokevirtual 165, 3) := by decide +kernel
theorem dL_1118 : decode code 1118 = .ok (.if_icmp .eq 447, 3) := by decide +kernel
theorem dL_1123 : decode code 1123 = .ok (.aload_n 1, 1) := by decide +kernel
theorem dL_1124 : decode code 1124 = .ok (.aload_n 0, 1) := by decide +kernel
theorem dL_1125 : decode code 1125 = .ok (.iload 4, 2) := by decide +kernel
theorem dL_1127 : decode code 1127 = .ok (.iconst 1, 1) := by decide +kernel
theorem dL_1128 : decode code 1128 = .ok (.iadd, 1) := by decide +kernel
theorem dL_1129 : decode code 1129 = .ok (.iaload, 1) := by decide +kernel
theorem dL_1130 : decode code 1130 = .ok (.invokevirtual 166, 3) := by decide +kernel
theorem dL_1133 : decode code 1133 = .ok (.aload_n 2, 1) := by decide +kernel
theorem dL_1134 : decode code 1134 = .ok (.aload_n 0, 1) := by decide +kernel
theorem dL_1135 : decode code 1135 = .ok (.iload 4, 2) := by decide +kernel
theorem dL_1137 : decode code 1137 = .ok (.iconst 1, 1) := by decide +kernel
theorem dL_1138 : decode code 1138 = .ok (.iadd, 1) := by decide +kernel
theorem dL_1139 : decode code 1139 = .ok (.iaload, 1) := by decide +kernel
theorem dL_1140 : decode code 1140 = .ok (.invokevirtual 169, 3) := by decide +kernel
theorem dL_1143 : decode code 1143 = .ok (.if_icmp .eq 422, 3) := by decide +kernel
theorem dL_1148 : decode code 1148 = .ok (.aload_n 1, 1) := by decide +kernel
theorem dL_1149 : decode code 1149 = .ok (.aload_n 0, 1) := by decide +kernel
theorem dL_1150 : decode code 1150 = .ok (.iload 4, 2) := by decide +kernel
theorem dL_1152 : decode code 1152 = .ok (.iconst 1, 1) := by decide +kernel
theorem dL_1153 : decode code 1153 = .ok (.iadd, 1) := by decide +kernel
theorem dL_1154 : decode code 1154 = .ok (.iaload, 1) := by decide +kernel
theorem dL_1155 : decode code 1155 = .ok (.aload_n 0, 1) := by decide +kernel
theorem dL_1156 : decode code 1156 = .ok (.iload 4, 2) := by decide +kernel
theorem dL_1158 : decode code 1158 = .ok (.iconst 2, 1) := by decide +kernel
theorem dL_1159 : decode code 1159 = .ok (.iadd, 1) := by decide +kernel
theorem dL_1160 : decode code 1160 = .ok (.iaload, 1) := by decide +kernel
theorem dL_1161 : decode code 1161 = .ok (.aload_n 0, 1) := by decide +kernel
theorem dL_1162 : decode code 1162 = .ok (.iload 4, 2) := by decide +kernel
theorem dL_1164 : decode code 1164 = .ok (.iconst 3, 1) := by decide +kernel
theorem dL_1165 : decode code 1165 = .ok (.iadd, 1) := by decide +kernel
theorem dL_1166 : decode code 1166 = .ok (.iaload, 1) := by decide +kernel
theorem dL_1167 : decode code 1167 = .ok (.invokevirtual 170, 3) := by decide +kernel
theorem dL_1170 : decode code 1170 = .ok (.aload_n 2, 1) := by decide +kernel
theorem dL_1171 : decode code 1171 = .ok (.aload_n 0, 1) := by decide +kernel
theorem dL_1172 : decode code 1172 = .ok (.iload 4, 2) := by decide +kernel
theorem dL_1174 : decode code 1174 = .ok (.iconst 1, 1) := by decide +kernel
theorem dL_1175 : decode code 1175 = .ok (.iadd, 1) := by decide +kernel
theorem dL_1176 : decode code 1176 = .ok (.iaload, 1) := by decide +kernel
theorem dL_1177 : decode code 1177 = .ok (.aload_n 0, 1) := by decide +kernel
theorem dL_1178 : decode code 1178 = .ok (.iload 4, 2) := by decide +kernel
theorem dL_1180 : decode code 1180 = .ok (.iconst 2, 1) := by decide +kernel
theorem dL_1181 : decode code 1181 = .ok (.iadd, 1) := by decide +kernel
theorem dL_1182 : decode code 1182 = .ok (.iaload, 1) := by decide +kernel
theorem dL_1183 : decode code 1183 = .ok (.aload_n 0, 1) := by decide +kernel
theorem dL_1184 : decode code 1184 = .ok (.iload 4, 2) := by decide +kernel
theorem dL_1186 : decode code 1186 = .ok (.iconst 3, 1) := by decide +kernel
theorem dL_1187 : decode code 1187 = .ok (.iadd, 1) := by decide +kernel
theorem dL_1188 : decode code 1188 = .ok (.iaload, 1) := by decide +kernel
theorem dL_1189 : decode code 1189 = .ok (.invokevirtual 174, 3) := by decide +kernel
theorem dL_1192 : decode code 1192 = .ok (.if_icmp .eq 373, 3) := by decide +kernel
theorem dL_1197 : decode code 1197 = .ok (.aload_n 1, 1) := by decide +kernel
theorem dL_1198 : decode code 1198 = .ok (.invokevirtual 175, 3) := by decide +kernel
theorem dL_1201 : decode code 1201 = .ok (.aload_n 2, 1) := by decide +kernel
theorem dL_1202 : decode code 1202 = .ok (.invokevirtual 178, 3) := by decide +kernel
theorem dL_1205 : decode code 1205 = .ok (.if_icmp .eq 360, 3) := by decide +kernel
theorem dL_1210 : decode code 1210 = .ok (.aload_n 1, 1) := by decide +kernel
theorem dL_1211 : decode code 1211 = .ok (.aload_n 0, 1) := by decide +kernel
theorem dL_1212 : decode code 1212 = .ok (.iload 4, 2) := by decide +kernel
theorem dL_1214 : decode code 1214 = .ok (.iconst 1, 1) := by decide +kernel
theorem dL_1215 : decode code 1215 = .ok (.iadd, 1) := by decide +kernel
theorem dL_1216 : decode code 1216 = .ok (.iaload, 1) := by decide +kernel
theorem dL_1217 : decode code 1217 = .ok (.invokevirtual 179, 3) := by decide +kernel
theorem dL_1220 : decode code 1220 = .ok (.aload_n 2, 1) := by decide +kernel
theorem dL_1221 : decode code 1221 = .ok (.aload_n 0, 1) := by decide +kernel
theorem dL_1222 : decode code 1222 = .ok (.iload 4, 2) := by decide +kernel
theorem dL_1224 : decode code 1224 = .ok (.iconst 1, 1) := by decide +kernel
theorem dL_1225 : decode code 1225 = .ok (.iadd, 1) := by decide +kernel
theorem dL_1226 : decode code 1226 = .ok (.iaload, 1) := by decide +kernel
theorem dL_1227 : decode code 1227 = .ok (.invokevirtual 182, 3) := by decide +kernel
theorem dL_1230 : decode code 1230 = .ok (.if_icmp .eq 335, 3) := by decide +kernel
theorem dL_1235 : decode code 1235 = .ok (.aload_n 1, 1) := by decide +kernel
theorem dL_1236 : decode code 1236 = .ok (.invokevirtual 183, 3) := by decide +kernel
theorem dL_1239 : decode code 1239 = .ok (.aload_n 2, 1) := by decide +kernel
theorem dL_1240 : decode code 1240 = .ok (.invokevirtual 186, 3) := by decide +kernel
theorem dL_1243 : decode code 1243 = .ok (.if_icmp .eq 322, 3) := by decide +kernel
theorem dL_1248 : decode code 1248 = .ok (.aload_n 1, 1) := by decide +kernel
theorem dL_1249 : decode code 1249 = .ok (.aload_n 0, 1) := by decide +kernel
theorem dL_1250 : decode code 1250 = .ok (.iload 4, 2) := by decide +kernel
theorem dL_1252 : decode code 1252 = .ok (.iconst 1, 1) := by decide +kernel
theorem dL_1253 : decode code 1253 = .ok (.iadd, 1) := by decide +kernel
theorem dL_1254 : decode code 1254 = .ok (.iaload, 1) := by decide +kernel
theorem dL_1255 : decode code 1255 = .ok (.invokevirtual 187, 3) := by decide +kernel
theorem dL_1258 : decode code 1258 = .ok (.aload_n 2, 1) := by decide +kernel
theorem dL_1259 : decode code 1259 = .ok (.aload_n 0, 1) := by decide +kernel
theorem dL_1260 : decode code 1260 = .ok (.iload 4, 2) := by decide +kernel
theorem dL_1262 : decode code 1262 = .ok (.iconst 1, 1) := by decide +kernel
theorem dL_1263 : decode code 1263 = .ok (.iadd, 1) := by decide +kernel
theorem dL_1264 : decode code 1264 = .ok (.iaload, 1) := by decide +kernel
theorem dL_1265 : decode code 1265 = .ok (.invokevirtual 190, 3) := by decide +kernel
theorem dL_1268 : decode code 1268 = .ok (.if_icmp .eq 297, 3) := by decide +kernel
theorem dL_1273 : decode code 1273 = .ok (.aload_n 1, 1) := by decide +kernel
theorem dL_1274 : decode code 1274 = .ok (.aload_n 0, 1) := by decide +kernel
theorem dL_1275 : decode code 1275 = .ok (.iload 4, 2) := by decide +kernel
theorem dL_1277 : decode code 1277 = .ok (.iconst 1, 1) := by decide +kernel
theorem dL_1278 : decode code 1278 = .ok (.iadd, 1) := by decide +kernel
theorem dL_1279 : decode code 1279 = .ok (.iaload, 1) := by decide +kernel
theorem dL_1280 : decode code 1280 = .ok (.invokevirtual 191, 3) := by decide +kernel
theorem dL_1283 : decode code 1283 = .ok (.aload_n 2, 1) := by decide +kernel
theorem dL_1284 : decode code 1284 = .ok (.aload_n 0, 1) := by decide +kernel
theorem dL_1285 : decode code 1285 = .ok (.iload 4, 2) := by decide +kernel
theorem dL_1287 : decode code 1287 = .ok (.iconst 1, 1) := by decide +kernel
theorem dL_1288 : decode code 1288 = .ok (.iadd, 1) := by decide +kernel
theorem dL_1289 : decode code 1289 = .ok (.iaload, 1) := by decide +kernel
theorem dL_1290 : decode code 1290 = .ok (.invokevirtual 194, 3) := by decide +kernel
theorem dL_1293 : decode code 1293 = .ok (.if_icmp .eq 272, 3) := by decide +kernel
theorem dL_1298 : decode code 1298 = .ok (.aload_n 1, 1) := by decide +kernel
theorem dL_1299 : decode code 1299 = .ok (.aload_n 0, 1) := by decide +kernel
theorem dL_1300 : decode code 1300 = .ok (.iload 4, 2) := by decide +kernel
theorem dL_1302 : decode code 1302 = .ok (.iconst 1, 1) := by decide +kernel
theorem dL_1303 : decode code 1303 = .ok (.iadd, 1) := by decide +kernel
theorem dL_1304 : decode code 1304 = .ok (.iaload, 1) := by decide +kernel
theorem dL_1305 : decode code 1305 = .ok (.aload_n 0, 1) := by decide +kernel
theorem dL_1306 : decode code 1306 = .ok (.iload 4, 2) := by decide +kernel
theorem dL_1308 : decode code 1308 = .ok (.iconst 2, 1) := by decide +kernel
theorem dL_1309 : decode code 1309 = .ok (.iadd, 1) := by decide +kernel
theorem dL_1310 : decode code 1310 = .ok (.iaload, 1) := by decide +kernel
theorem dL_1311 : decode code 1311 = .ok (.invokevirtual 195, 3) := by decide +kernel
theorem dL_1314 : decode code 1314 = .ok (.aload_n 2, 1) := by decide +kernel
theorem dL_1315 : decode code 1315 = .ok (.aload_n 0, 1) := by decide +kernel
theorem dL_1316 : decode code 1316 = .ok (.iload 4, 2) := by decide +kernel
theorem dL_1318 : decode code 1318 = .ok (.iconst 1, 1) := by decide +kernel
theorem dL_1319 : decode code 1319 = .ok (.iadd, 1) := by decide +kernel
theorem dL_1320 : decode code 1320 = .ok (.iaload, 1) := by decide +kernel
theorem dL_1321 : decode code 1321 = .ok (.aload_n 0, 1) := by decide +kernel
theorem dL_1322 : decode code 1322 = .ok (.iload 4, 2) := by decide +kernel
theorem dL_1324 : decode code 1324 = .ok (.iconst 2, 1) := by decide +kernel
theorem dL_1325 : decode code 1325 = .ok (.iadd, 1) := by decide +kernel
theorem dL_1326 : decode code 1326 = .ok (.iaload, 1) := by decide +kernel
theorem dL_1327 : decode code 1327 = .ok (.invokevirtual 198, 3) := by decide +kernel
theorem dL_1330 : decode code 1330 = .ok (.if_icmp .eq 235, 3) := by decide +kernel
theorem dL_1335 : decode code 1335 = .ok (.aload_n 1, 1) := by decide +kernel
theorem dL_1336 : decode code 1336 = .ok (.invokevirtual 199, 3) := by decide +kernel
theorem dL_1339 : decode code 1339 = .ok (.aload_n 2, 1) := by decide +kernel
theorem dL_1340 : decode code 1340 = .ok (.invokevirtual 202, 3) := by decide +kernel
theorem dL_1343 : decode code 1343 = .ok (.if_icmp .eq 222, 3) := by decide +kernel
theorem dL_1348 : decode code 1348 = .ok (.aload_n 1, 1) := by decide +kernel
theorem dL_1349 : decode code 1349 = .ok (.aload_n 0, 1) := by decide +kernel
theorem dL_1350 : decode code 1350 = .ok (.iload 4, 2) := by decide +kernel
theorem dL_1352 : decode code 1352 = .ok (.iconst 1, 1) := by decide +kernel
theorem dL_1353 : decode code 1353 = .ok (.iadd, 1) := by decide +kernel
theorem dL_1354 : decode code 1354 = .ok (.iaload, 1) := by decide +kernel
theorem dL_1355 : decode code 1355 = .ok (.aload_n 0, 1) := by decide +kernel
theorem dL_1356 : decode code 1356 = .ok (.iload 4, 2) := by decide +kernel
theorem dL_1358 : decode code 1358 = .ok (.iconst 2, 1) := by decide +kernel
theorem dL_1359 : decode code 1359 = .ok (.iadd, 1) := by decide +kernel
theorem dL_1360 : decode code 1360 = .ok (.iaload, 1) := by decide +kernel
theorem dL_1361 : decode code 1361 = .ok (.invokevirtual 203, 3) := by decide +kernel
theorem dL_1364 : decode code 1364 = .ok (.aload_n 2, 1) := by decide +kernel
theorem dL_1365 : decode code 1365 = .ok (.aload_n 0, 1) := by decide +kernel
theorem dL_1366 : decode code 1366 = .ok (.iload 4, 2) := by decide +kernel
theorem dL_1368 : decode code 1368 = .ok (.iconst 1, 1) := by decide +kernel
theorem dL_1369 : decode code 1369 = .ok (.iadd, 1) := by decide +kernel
theorem dL_1370 : decode code 1370 = .ok (.iaload, 1) := by decide +kernel
theorem dL_1371 : decode code 1371 = .ok (.aload_n 0, 1) := by decide +kernel
theorem dL_1372 : decode code 1372 = .ok (.iload 4, 2) := by decide +kernel
theorem dL_1374 : decode code 1374 = .ok (.iconst 2, 1) := by decide +kernel
theorem dL_1375 : decode code 1375 = .ok (.iadd, 1) := by decide +kernel
theorem dL_1376 : decode code 1376 = .ok (.iaload, 1) := by decide +kernel
theorem dL_1377 : decode code 1377 = .ok (.invokevirtual 206, 3) := by decide +kernel
theorem dL_1380 : decode code 1380 = .ok (.if_icmp .eq 185, 3) := by decide +kernel
theorem dL_1385 : decode code 1385 = .ok (.aload_n 1, 1) := by decide +kernel
theorem dL_1386 : decode code 1386 = .ok (.invokevirtual 207, 3) := by decide +kernel
theorem dL_1389 : decode code 1389 = .ok (.aload_n 2, 1) := by decide +kernel
theorem dL_1390 : decode code 1390 = .ok (.invokevirtual 210, 3) := by decide +kernel
theorem dL_1393 : decode code 1393 = .ok (.if_icmp .eq 172, 3) := by decide +kernel
theorem dL_1398 : decode code 1398 = .ok (.aload_n 1, 1) := by decide +kernel
theorem dL_1399 : decode code 1399 = .ok (.aload_n 0, 1) := by decide +kernel
theorem dL_1400 : decode code 1400 = .ok (.iload 4, 2) := by decide +kernel
theorem dL_1402 : decode code 1402 = .ok (.iconst 1, 1) := by decide +kernel
theorem dL_1403 : decode code 1403 = .ok (.iadd, 1) := by decide +kernel
theorem dL_1404 : decode code 1404 = .ok (.iaload, 1) := by decide +kernel
theorem dL_1405 : decode code 1405 = .ok (.aload_n 0, 1) := by decide +kernel
theorem dL_1406 : decode code 1406 = .ok (.iload 4, 2) := by decide +kernel
theorem dL_1408 : decode code 1408 = .ok (.iconst 2, 1) := by decide +kernel
theorem dL_1409 : decode code 1409 = .ok (.iadd, 1) := by decide +kernel
theorem dL_1410 : decode code 1410 = .ok (.iaload, 1) := by decide +kernel
theorem dL_1411 : decode code 1411 = .ok (.invokevirtual 211, 3) := by decide +kernel
theorem dL_1414 : decode code 1414 = .ok (.aload_n 2, 1) := by decide +kernel
theorem dL_1415 : decode code 1415 = .ok (.aload_n 0, 1) := by decide +kernel
theorem dL_1416 : decode code 1416 = .ok (.iload 4, 2) := by decide +kernel
theorem dL_1418 : decode code 1418 = .ok (.iconst 1, 1) := by decide +kernel
theorem dL_1419 : decode code 1419 = .ok (.iadd, 1) := by decide +kernel
theorem dL_1420 : decode code 1420 = .ok (.iaload, 1) := by decide +kernel
theorem dL_1421 : decode code 1421 = .ok (.aload_n 0, 1) := by decide +kernel
theorem dL_1422 : decode code 1422 = .ok (.iload 4, 2) := by decide +kernel
theorem dL_1424 : decode code 1424 = .ok (.iconst 2, 1) := by decide +kernel
theorem dL_1425 : decode code 1425 = .ok (.iadd, 1) := by decide +kernel
theorem dL_1426 : decode code 1426 = .ok (.iaload, 1) := by decide +kernel
theorem dL_1427 : decode code 1427 = .ok (.invokevirtual 214, 3) := by decide +kernel
theorem dL_1430 : decode code 1430 = .ok (.if_icmp .eq 135, 3) := by decide +kernel
theorem dL_1435 : decode code 1435 = .ok (.aload_n 1, 1) := by decide +kernel
theorem dL_1436 : decode code 1436 = .ok (.aload_n 0, 1) := by decide +kernel
theorem dL_1437 : decode code 1437 = .ok (.iload 4, 2) := by decide +kernel
theorem dL_1439 : decode code 1439 = .ok (.iconst 1, 1) := by decide +kernel
theorem dL_1440 : decode code 1440 = .ok (.iadd, 1) := by decide +kernel
theorem dL_1441 : decode code 1441 = .ok (.iaload, 1) := by decide +kernel
theorem dL_1442 : decode code 1442 = .ok (.invokevirtual 215, 3) := by decide +kernel
theorem dL_1445 : decode code 1445 = .ok (.aload_n 2, 1) := by decide +kernel
theorem dL_1446 : decode code 1446 = .ok (.aload_n 0, 1) := by decide +kernel
theorem dL_1447 : decode code 1447 = .ok (.iload 4, 2) := by decide +kernel
theorem dL_1449 : decode code 1449 = .ok (.iconst 1, 1) := by decide +kernel
theorem dL_1450 : decode code 1450 = .ok (.iadd, 1) := by decide +kernel
theorem dL_1451 : decode code 1451 = .ok (.iaload, 1) := by decide +kernel
theorem dL_1452 : decode code 1452 = .ok (.invokevirtual 218, 3) := by decide +kernel
theorem dL_1455 : decode code 1455 = .ok (.if_icmp .eq 110, 3) := by decide +kernel
theorem dL_1460 : decode code 1460 = .ok (.aload_n 1, 1) := by decide +kernel
theorem dL_1461 : decode code 1461 = .ok (.aload_n 0, 1) := by decide +kernel
theorem dL_1462 : decode code 1462 = .ok (.iload 4, 2) := by decide +kernel
theorem dL_1464 : decode code 1464 = .ok (.iconst 1, 1) := by decide +kernel
theorem dL_1465 : decode code 1465 = .ok (.iadd, 1) := by decide +kernel
theorem dL_1466 : decode code 1466 = .ok (.iaload, 1) := by decide +kernel
theorem dL_1467 : decode code 1467 = .ok (.invokevirtual 219, 3) := by decide +kernel
theorem dL_1470 : decode code 1470 = .ok (.aload_n 2, 1) := by decide +kernel
theorem dL_1471 : decode code 1471 = .ok (.aload_n 0, 1) := by decide +kernel
theorem dL_1472 : decode code 1472 = .ok (.iload 4, 2) := by decide +kernel
theorem dL_1474 : decode code 1474 = .ok (.iconst 1, 1) := by decide +kernel
theorem dL_1475 : decode code 1475 = .ok (.iadd, 1) := by decide +kernel
theorem dL_1476 : decode code 1476 = .ok (.iaload, 1) := by decide +kernel
theorem dL_1477 : decode code 1477 = .ok (.invokevirtual 222, 3) := by decide +kernel
theorem dL_1480 : decode code 1480 = .ok (.if_icmp .eq 85, 3) := by decide +kernel
theorem dL_1485 : decode code 1485 = .ok (.aload_n 1, 1) := by decide +kernel
theorem dL_1486 : decode code 1486 = .ok (.aload_n 0, 1) := by decide +kernel
theorem dL_1487 : decode code 1487 = .ok (.iload 4, 2) := by decide +kernel
theorem dL_1489 : decode code 1489 = .ok (.iconst 1, 1) := by decide +kernel
theorem dL_1490 : decode code 1490 = .ok (.iadd, 1) := by decide +kernel
theorem dL_1491 : decode code 1491 = .ok (.iaload, 1) := by decide +kernel
theorem dL_1492 : decode code 1492 = .ok (.invokevirtual 223, 3) := by decide +kernel
theorem dL_1495 : decode code 1495 = .ok (.aload_n 2, 1) := by decide +kernel
theorem dL_1496 : decode code 1496 = .ok (.aload_n 0, 1) := by decide +kernel
theorem dL_1497 : decode code 1497 = .ok (.iload 4, 2) := by decide +kernel
theorem dL_1499 : decode code 1499 = .ok (.iconst 1, 1) := by decide +kernel
theorem dL_1500 : decode code 1500 = .ok (.iadd, 1) := by decide +kernel
theorem dL_1501 : decode code 1501 = .ok (.iaload, 1) := by decide +kernel
theorem dL_1502 : decode code 1502 = .ok (.invokevirtual 226, 3) := by decide +kernel
theorem dL_1505 : decode code 1505 = .ok (.if_icmp .eq 60, 3) := by decide +kernel
theorem law_sign {E : zE} {Γ : zT} {d L i N : Nat} {xs : Nat → Int32} {M : zM} (hc : Cx E Γ RLw code 8 d) (hd : 121 ≤ d) (hs : Scr E Γ L xs) (hL : L ≤ 2560) (hi : i + 5 ≤ L) (hN : N < 1000) (h : RAll M N) (k : ∀ M2, RAll M2 (N + 1) → G E Γ 8 1565 (lvL i) [] M2) : G E Γ 8 248 (lvL i) [] M := by
  obtain ⟨r, M1, M2, e1, e2, hR⟩ := op_sign h (xs (i + 1))
  refine g_aload_n (i := 1) (x := 0) hc (dL_248) rfl rfl ?_
  refine g_aload_n (i := 0) (x := 148) hc (dL_249) rfl rfl ?_
  refine g_iload (i := 4) (x := nI i) hc (dL_250) rfl ?_
  refine g_iconst (v := 1) hc (dL_252) (by decide) ?_
  refine g_iadd hc (dL_253) ?_
  refine g_sld (j := i + 1) hc hs (dL_254) (nI_add i 1) (by omega) hL ?_
  refine g_callVi ([.int (xs (i + 1))]) hc wvL_26 (dL_255) rfl rfl (d' := 120) (by omega) (Nat.le_of_ble_eq_true rfl) (cX11_sign_ok (K := fun q => q = (r, M1)) (by omega) (xs (i + 1)) M ⟨_, e1, rfl⟩) (fun r0 N0 q0 => ?_)
  rw [(Prod.mk.inj q0).1, (Prod.mk.inj q0).2]
  refine g_aload_n (i := 2) (x := 36) hc (dL_258) rfl rfl ?_
  refine g_aload_n (i := 0) (x := 148) hc (dL_259) rfl rfl ?_
  refine g_iload (i := 4) (x := nI i) hc (dL_260) rfl ?_
  refine g_iconst (v := 1) hc (dL_262) (by decide) ?_
  refine g_iadd hc (dL_263) ?_
  refine g_sld (j := i + 1) hc hs (dL_264) (nI_add i 1) (by omega) hL ?_
  refine g_callVi ([.int (xs (i + 1))]) hc wvL_30 (dL_265) rfl rfl (d' := 120) (by omega) (Nat.le_of_ble_eq_true rfl) (cX12_sign_ok (K := fun q => q = (r, M2)) (by omega) (xs (i + 1)) M1 ⟨_, e2, rfl⟩) (fun r1 N1 q1 => ?_)
  rw [(Prod.mk.inj q1).1, (Prod.mk.inj q1).2]
  exact g_icmp_eq hc (dL_268) (tgt := 1565) (by decide) (fun _ => k _ hR) (fun z => absurd rfl z)
theorem law_end {E : zE} {Γ : zT} {d L i N : Nat} {xs : Nat → Int32} {M : zM} (hc : Cx E Γ RLw code 8 d) (hd : 121 ≤ d) (hs : Scr E Γ L xs) (hL : L ≤ 2560) (hi : i + 5 ≤ L) (hN : N < 1000) (h : RAll M N) (k : ∀ M2, RAll M2 (N + 1) → G E Γ 8 1565 (lvL i) [] M2) : G E Γ 8 273 (lvL i) [] M := by
  obtain ⟨r, M1, M2, e1, e2, hR⟩ := op_end h (xs (i + 1))
  refine g_aload_n (i := 1) (x := 0) hc (dL_273) rfl rfl ?_
  refine g_aload_n (i := 0) (x := 148) hc (dL_274) rfl rfl ?_
  refine g_iload (i := 4) (x := nI i) hc (dL_275) rfl ?_
  refine g_iconst (v := 1) hc (dL_277) (by decide) ?_
  refine g_iadd hc (dL_278) ?_
  refine g_sld (j := i + 1) hc hs (dL_279) (nI_add i 1) (by omega) hL ?_
  refine g_callVi ([.int (xs (i + 1))]) hc wvL_31 (dL_280) rfl rfl (d' := 120) (by omega) (Nat.le_of_ble_eq_true rfl) (cX11_end_ok (K := fun q => q = (r, M1)) (by omega) (xs (i + 1)) M (Option.some.inj e1)) (fun r0 N0 q0 => ?_)
  rw [(Prod.mk.inj q0).1, (Prod.mk.inj q0).2]
  refine g_aload_n (i := 2) (x := 36) hc (dL_283) rfl rfl ?_
  refine g_aload_n (i := 0) (x := 148) hc (dL_284) rfl rfl ?_
  refine g_iload (i := 4) (x := nI i) hc (dL_285) rfl ?_
  refine g_iconst (v := 1) hc (dL_287) (by decide) ?_
  refine g_iadd hc (dL_288) ?_
  refine g_sld (j := i + 1) hc hs (dL_289) (nI_add i 1) (by omega) hL ?_
  refine g_callVi ([.int (xs (i + 1))]) hc wvL_35 (dL_290) rfl rfl (d' := 120) (by omega) (Nat.le_of_ble_eq_true rfl) (cX12_end_ok (K := fun q => q = (r, M2)) (by omega) (xs (i + 1)) M1 (Option.some.inj e2)) (fun r1 N1 q1 => ?_)
  rw [(Prod.mk.inj q1).1, (Prod.mk.inj q1).2]
  exact g_icmp_eq hc (dL_293) (tgt := 1565) (by decide) (fun _ => k _ hR) (fun z => absurd rfl z)
theorem law_things {E : zE} {Γ : zT} {d L i N : Nat} {xs : Nat → Int32} {M : zM} (hc : Cx E Γ RLw code 8 d) (hd : 121 ≤ d) (hs : Scr E Γ L xs) (hL : L ≤ 2560) (hi : i + 5 ≤ L) (hN : N < 1000) (h : RAll M N) (k : ∀ M2, RAll M2 (N + 1) → G E Γ 8 1565 (lvL i) [] M2) : G E Γ 8 298 (lvL i) [] M := by
  obtain ⟨r, M1, M2, e1, e2, hR⟩ := op_things (by omega) h 
  refine g_aload_n (i := 1) (x := 0) hc (dL_298) rfl rfl ?_
  refine g_callVi ([]) hc wvL_36 (dL_299) rfl rfl (d' := 120) (by omega) (Nat.le_of_ble_eq_true rfl) (cX11_things_ok (K := fun q => q = (r, M1)) (by omega)  M ⟨_, e1, rfl⟩) (fun r0 N0 q0 => ?_)
  rw [(Prod.mk.inj q0).1, (Prod.mk.inj q0).2]
  refine g_aload_n (i := 2) (x := 36) hc (dL_302) rfl rfl ?_
  refine g_callVi ([]) hc wvL_40 (dL_303) rfl rfl (d' := 120) (by omega) (Nat.le_of_ble_eq_true rfl) (cX12_things_ok (K := fun q => q = (r, M2)) (by omega)  M1 ⟨_, e2, rfl⟩) (fun r1 N1 q1 => ?_)
  rw [(Prod.mk.inj q1).1, (Prod.mk.inj q1).2]
  exact g_icmp_eq hc (dL_306) (tgt := 1565) (by decide) (fun _ => k _ hR) (fun z => absurd rfl z)
theorem law_deeds {E : zE} {Γ : zT} {d L i N : Nat} {xs : Nat → Int32} {M : zM} (hc : Cx E Γ RLw code 8 d) (hd : 121 ≤ d) (hs : Scr E Γ L xs) (hL : L ≤ 2560) (hi : i + 5 ≤ L) (hN : N < 1000) (h : RAll M N) (k : ∀ M2, RAll M2 (N + 1) → G E Γ 8 1565 (lvL i) [] M2) : G E Γ 8 311 (lvL i) [] M := by
  obtain ⟨r, M1, M2, e1, e2, hR⟩ := op_deeds (by omega) h 
  refine g_aload_n (i := 1) (x := 0) hc (dL_311) rfl rfl ?_
  refine g_callVi ([]) hc wvL_41 (dL_312) rfl rfl (d' := 120) (by omega) (Nat.le_of_ble_eq_true rfl) (cX11_deeds_ok (K := fun q => q = (r, M1)) (by omega)  M ⟨_, e1, rfl⟩) (fun r0 N0 q0 => ?_)
  rw [(Prod.mk.inj q0).1, (Prod.mk.inj q0).2]
  refine g_aload_n (i := 2) (x := 36) hc (dL_315) rfl rfl ?_
  refine g_callVi ([]) hc wvL_44 (dL_316) rfl rfl (d' := 120) (by omega) (Nat.le_of_ble_eq_true rfl) (cX12_deeds_ok (K := fun q => q = (r, M2)) (by omega)  M1 ⟨_, e2, rfl⟩) (fun r1 N1 q1 => ?_)
  rw [(Prod.mk.inj q1).1, (Prod.mk.inj q1).2]
  exact g_icmp_eq hc (dL_319) (tgt := 1565) (by decide) (fun _ => k _ hR) (fun z => absurd rfl z)
theorem law_rule {E : zE} {Γ : zT} {d L i N : Nat} {xs : Nat → Int32} {M : zM} (hc : Cx E Γ RLw code 8 d) (hd : 121 ≤ d) (hs : Scr E Γ L xs) (hL : L ≤ 2560) (hi : i + 5 ≤ L) (hN : N < 1000) (h : RAll M N) (k : ∀ M2, RAll M2 (N + 1) → G E Γ 8 1565 (lvL i) [] M2) : G E Γ 8 324 (lvL i) [] M := by
  obtain ⟨r, M1, M2, e1, e2, hR⟩ := op_rule h 
  refine g_aload_n (i := 1) (x := 0) hc (dL_324) rfl rfl ?_
  refine g_callVi ([]) hc wvL_45 (dL_325) rfl rfl (d' := 120) (by omega) (Nat.le_of_ble_eq_true rfl) (cX11_rule_ok (K := fun q => q = (r, M1)) (by omega)  M ⟨_, e1, rfl⟩) (fun r0 N0 q0 => ?_)
  rw [(Prod.mk.inj q0).1, (Prod.mk.inj q0).2]
  refine g_aload_n (i := 2) (x := 36) hc (dL_328) rfl rfl ?_
  refine g_callVi ([]) hc wvL_48 (dL_329) rfl rfl (d' := 120) (by omega) (Nat.le_of_ble_eq_true rfl) (cX12_rule_ok (K := fun q => q = (r, M2)) (by omega)  M1 ⟨_, e2, rfl⟩) (fun r1 N1 q1 => ?_)
  rw [(Prod.mk.inj q1).1, (Prod.mk.inj q1).2]
  exact g_icmp_eq hc (dL_332) (tgt := 1565) (by decide) (fun _ => k _ hR) (fun z => absurd rfl z)
theorem law_set {E : zE} {Γ : zT} {d L i N : Nat} {xs : Nat → Int32} {M : zM} (hc : Cx E Γ RLw code 8 d) (hd : 121 ≤ d) (hs : Scr E Γ L xs) (hL : L ≤ 2560) (hi : i + 5 ≤ L) (hN : N < 1000) (h : RAll M N) (k : ∀ M2, RAll M2 (N + 1) → G E Γ 8 1565 (lvL i) [] M2) : G E Γ 8 473 (lvL i) [] M := by
  obtain ⟨r, M1, M2, e1, e2, hR⟩ := op_set h (xs (i + 1)) (xs (i + 2))
  refine g_aload_n (i := 1) (x := 0) hc (dL_473) rfl rfl ?_
  refine g_aload_n (i := 0) (x := 148) hc (dL_474) rfl rfl ?_
  refine g_iload (i := 4) (x := nI i) hc (dL_475) rfl ?_
  refine g_iconst (v := 1) hc (dL_477) (by decide) ?_
  refine g_iadd hc (dL_478) ?_
  refine g_sld (j := i + 1) hc hs (dL_479) (nI_add i 1) (by omega) hL ?_
  refine g_aload_n (i := 0) (x := 148) hc (dL_480) rfl rfl ?_
  refine g_iload (i := 4) (x := nI i) hc (dL_481) rfl ?_
  refine g_iconst (v := 2) hc (dL_483) (by decide) ?_
  refine g_iadd hc (dL_484) ?_
  refine g_sld (j := i + 2) hc hs (dL_485) (nI_add i 2) (by omega) hL ?_
  refine g_callVi ([.int (xs (i + 1)), .int (xs (i + 2))]) hc wvL_61 (dL_486) rfl rfl (d' := 120) (by omega) (Nat.le_of_ble_eq_true rfl) (cX11_set_ok (K := fun q => q = (r, M1)) (by omega) (xs (i + 1)) (xs (i + 2)) M (Option.some.inj e1)) (fun r0 N0 q0 => ?_)
  rw [(Prod.mk.inj q0).1, (Prod.mk.inj q0).2]
  refine g_aload_n (i := 2) (x := 36) hc (dL_489) rfl rfl ?_
  refine g_aload_n (i := 0) (x := 148) hc (dL_490) rfl rfl ?_
  refine g_iload (i := 4) (x := nI i) hc (dL_491) rfl ?_
  refine g_iconst (v := 1) hc (dL_493) (by decide) ?_
  refine g_iadd hc (dL_494) ?_
  refine g_sld (j := i + 1) hc hs (dL_495) (nI_add i 1) (by omega) hL ?_
  refine g_aload_n (i := 0) (x := 148) hc (dL_496) rfl rfl ?_
  refine g_iload (i := 4) (x := nI i) hc (dL_497) rfl ?_
  refine g_iconst (v := 2) hc (dL_499) (by decide) ?_
  refine g_iadd hc (dL_500) ?_
  refine g_sld (j := i + 2) hc hs (dL_501) (nI_add i 2) (by omega) hL ?_
  refine g_callVi ([.int (xs (i + 1)), .int (xs (i + 2))]) hc wvL_64 (dL_502) rfl rfl (d' := 120) (by omega) (Nat.le_of_ble_eq_true rfl) (cX12_set_ok (K := fun q => q = (r, M2)) (by omega) (xs (i + 1)) (xs (i + 2)) M1 (Option.some.inj e2)) (fun r1 N1 q1 => ?_)
  rw [(Prod.mk.inj q1).1, (Prod.mk.inj q1).2]
  exact g_icmp_eq hc (dL_505) (tgt := 1565) (by decide) (fun _ => k _ hR) (fun z => absurd rfl z)
theorem law_sheet {E : zE} {Γ : zT} {d L i N : Nat} {xs : Nat → Int32} {M : zM} (hc : Cx E Γ RLw code 8 d) (hd : 121 ≤ d) (hs : Scr E Γ L xs) (hL : L ≤ 2560) (hi : i + 5 ≤ L) (hN : N < 1000) (h : RAll M N) (k : ∀ M2, RAll M2 (N + 1) → G E Γ 8 1565 (lvL i) [] M2) : G E Γ 8 510 (lvL i) [] M := by
  obtain ⟨r, M1, M2, e1, e2, hR⟩ := op_sheet h (xs (i + 1)) (xs (i + 2)) (xs (i + 3)) (xs (i + 4))
  refine g_aload_n (i := 1) (x := 0) hc (dL_510) rfl rfl ?_
  refine g_aload_n (i := 0) (x := 148) hc (dL_511) rfl rfl ?_
  refine g_iload (i := 4) (x := nI i) hc (dL_512) rfl ?_
  refine g_iconst (v := 1) hc (dL_514) (by decide) ?_
  refine g_iadd hc (dL_515) ?_
  refine g_sld (j := i + 1) hc hs (dL_516) (nI_add i 1) (by omega) hL ?_
  refine g_aload_n (i := 0) (x := 148) hc (dL_517) rfl rfl ?_
  refine g_iload (i := 4) (x := nI i) hc (dL_518) rfl ?_
  refine g_iconst (v := 2) hc (dL_520) (by decide) ?_
  refine g_iadd hc (dL_521) ?_
  refine g_sld (j := i + 2) hc hs (dL_522) (nI_add i 2) (by omega) hL ?_
  refine g_aload_n (i := 0) (x := 148) hc (dL_523) rfl rfl ?_
  refine g_iload (i := 4) (x := nI i) hc (dL_524) rfl ?_
  refine g_iconst (v := 3) hc (dL_526) (by decide) ?_
  refine g_iadd hc (dL_527) ?_
  refine g_sld (j := i + 3) hc hs (dL_528) (nI_add i 3) (by omega) hL ?_
  refine g_aload_n (i := 0) (x := 148) hc (dL_529) rfl rfl ?_
  refine g_iload (i := 4) (x := nI i) hc (dL_530) rfl ?_
  refine g_iconst (v := 4) hc (dL_532) (by decide) ?_
  refine g_iadd hc (dL_533) ?_
  refine g_sld (j := i + 4) hc hs (dL_534) (nI_add i 4) (by omega) hL ?_
  refine g_callVi ([.int (xs (i + 1)), .int (xs (i + 2)), .int (xs (i + 3)), .int (xs (i + 4))]) hc wvL_65 (dL_535) rfl rfl (d' := 120) (by omega) (Nat.le_of_ble_eq_true rfl) (cX11_sheet_ok (K := fun q => q = (r, M1)) (by omega) (xs (i + 1)) (xs (i + 2)) (xs (i + 3)) (xs (i + 4)) M ⟨_, e1, rfl⟩) (fun r0 N0 q0 => ?_)
  rw [(Prod.mk.inj q0).1, (Prod.mk.inj q0).2]
  refine g_aload_n (i := 2) (x := 36) hc (dL_538) rfl rfl ?_
  refine g_aload_n (i := 0) (x := 148) hc (dL_539) rfl rfl ?_
  refine g_iload (i := 4) (x := nI i) hc (dL_540) rfl ?_
  refine g_iconst (v := 1) hc (dL_542) (by decide) ?_
  refine g_iadd hc (dL_543) ?_
  refine g_sld (j := i + 1) hc hs (dL_544) (nI_add i 1) (by omega) hL ?_
  refine g_aload_n (i := 0) (x := 148) hc (dL_545) rfl rfl ?_
  refine g_iload (i := 4) (x := nI i) hc (dL_546) rfl ?_
  refine g_iconst (v := 2) hc (dL_548) (by decide) ?_
  refine g_iadd hc (dL_549) ?_
  refine g_sld (j := i + 2) hc hs (dL_550) (nI_add i 2) (by omega) hL ?_
  refine g_aload_n (i := 0) (x := 148) hc (dL_551) rfl rfl ?_
  refine g_iload (i := 4) (x := nI i) hc (dL_552) rfl ?_
  refine g_iconst (v := 3) hc (dL_554) (by decide) ?_
  refine g_iadd hc (dL_555) ?_
  refine g_sld (j := i + 3) hc hs (dL_556) (nI_add i 3) (by omega) hL ?_
  refine g_aload_n (i := 0) (x := 148) hc (dL_557) rfl rfl ?_
  refine g_iload (i := 4) (x := nI i) hc (dL_558) rfl ?_
  refine g_iconst (v := 4) hc (dL_560) (by decide) ?_
  refine g_iadd hc (dL_561) ?_
  refine g_sld (j := i + 4) hc hs (dL_562) (nI_add i 4) (by omega) hL ?_
  refine g_callVi ([.int (xs (i + 1)), .int (xs (i + 2)), .int (xs (i + 3)), .int (xs (i + 4))]) hc wvL_69 (dL_563) rfl rfl (d' := 120) (by omega) (Nat.le_of_ble_eq_true rfl) (cX12_sheet_ok (K := fun q => q = (r, M2)) (by omega) (xs (i + 1)) (xs (i + 2)) (xs (i + 3)) (xs (i + 4)) M1 ⟨_, e2, rfl⟩) (fun r1 N1 q1 => ?_)
  rw [(Prod.mk.inj q1).1, (Prod.mk.inj q1).2]
  exact g_icmp_eq hc (dL_566) (tgt := 1565) (by decide) (fun _ => k _ hR) (fun z => absurd rfl z)
theorem law_loses {E : zE} {Γ : zT} {d L i N : Nat} {xs : Nat → Int32} {M : zM} (hc : Cx E Γ RLw code 8 d) (hd : 121 ≤ d) (hs : Scr E Γ L xs) (hL : L ≤ 2560) (hi : i + 5 ≤ L) (hN : N < 1000) (h : RAll M N) (k : ∀ M2, RAll M2 (N + 1) → G E Γ 8 1565 (lvL i) [] M2) : G E Γ 8 571 (lvL i) [] M := by
  obtain ⟨r, M1, M2, e1, e2, hR⟩ := op_loses h (xs (i + 1)) (xs (i + 2))
  refine g_aload_n (i := 1) (x := 0) hc (dL_571) rfl rfl ?_
  refine g_aload_n (i := 0) (x := 148) hc (dL_572) rfl rfl ?_
  refine g_iload (i := 4) (x := nI i) hc (dL_573) rfl ?_
  refine g_iconst (v := 1) hc (dL_575) (by decide) ?_
  refine g_iadd hc (dL_576) ?_
  refine g_sld (j := i + 1) hc hs (dL_577) (nI_add i 1) (by omega) hL ?_
  refine g_aload_n (i := 0) (x := 148) hc (dL_578) rfl rfl ?_
  refine g_iload (i := 4) (x := nI i) hc (dL_579) rfl ?_
  refine g_iconst (v := 2) hc (dL_581) (by decide) ?_
  refine g_iadd hc (dL_582) ?_
  refine g_sld (j := i + 2) hc hs (dL_583) (nI_add i 2) (by omega) hL ?_
  refine g_callVi ([.int (xs (i + 1)), .int (xs (i + 2))]) hc wvL_70 (dL_584) rfl rfl (d' := 120) (by omega) (Nat.le_of_ble_eq_true rfl) (cX11_loses_ok (K := fun q => q = (r, M1)) (by omega) (xs (i + 1)) (xs (i + 2)) M ⟨_, e1, rfl⟩) (fun r0 N0 q0 => ?_)
  rw [(Prod.mk.inj q0).1, (Prod.mk.inj q0).2]
  refine g_aload_n (i := 2) (x := 36) hc (dL_587) rfl rfl ?_
  refine g_aload_n (i := 0) (x := 148) hc (dL_588) rfl rfl ?_
  refine g_iload (i := 4) (x := nI i) hc (dL_589) rfl ?_
  refine g_iconst (v := 1) hc (dL_591) (by decide) ?_
  refine g_iadd hc (dL_592) ?_
  refine g_sld (j := i + 1) hc hs (dL_593) (nI_add i 1) (by omega) hL ?_
  refine g_aload_n (i := 0) (x := 148) hc (dL_594) rfl rfl ?_
  refine g_iload (i := 4) (x := nI i) hc (dL_595) rfl ?_
  refine g_iconst (v := 2) hc (dL_597) (by decide) ?_
  refine g_iadd hc (dL_598) ?_
  refine g_sld (j := i + 2) hc hs (dL_599) (nI_add i 2) (by omega) hL ?_
  refine g_callVi ([.int (xs (i + 1)), .int (xs (i + 2))]) hc wvL_73 (dL_600) rfl rfl (d' := 120) (by omega) (Nat.le_of_ble_eq_true rfl) (cX12_loses_ok (K := fun q => q = (r, M2)) (by omega) (xs (i + 1)) (xs (i + 2)) M1 ⟨_, e2, rfl⟩) (fun r1 N1 q1 => ?_)
  rw [(Prod.mk.inj q1).1, (Prod.mk.inj q1).2]
  exact g_icmp_eq hc (dL_603) (tgt := 1565) (by decide) (fun _ => k _ hR) (fun z => absurd rfl z)
theorem law_finds {E : zE} {Γ : zT} {d L i N : Nat} {xs : Nat → Int32} {M : zM} (hc : Cx E Γ RLw code 8 d) (hd : 121 ≤ d) (hs : Scr E Γ L xs) (hL : L ≤ 2560) (hi : i + 5 ≤ L) (hN : N < 1000) (h : RAll M N) (k : ∀ M2, RAll M2 (N + 1) → G E Γ 8 1565 (lvL i) [] M2) : G E Γ 8 608 (lvL i) [] M := by
  obtain ⟨r, M1, M2, e1, e2, hR⟩ := op_finds h (xs (i + 1)) (xs (i + 2))
  refine g_aload_n (i := 1) (x := 0) hc (dL_608) rfl rfl ?_
  refine g_aload_n (i := 0) (x := 148) hc (dL_609) rfl rfl ?_
  refine g_iload (i := 4) (x := nI i) hc (dL_610) rfl ?_
  refine g_iconst (v := 1) hc (dL_612) (by decide) ?_
  refine g_iadd hc (dL_613) ?_
  refine g_sld (j := i + 1) hc hs (dL_614) (nI_add i 1) (by omega) hL ?_
  refine g_aload_n (i := 0) (x := 148) hc (dL_615) rfl rfl ?_
  refine g_iload (i := 4) (x := nI i) hc (dL_616) rfl ?_
  refine g_iconst (v := 2) hc (dL_618) (by decide) ?_
  refine g_iadd hc (dL_619) ?_
  refine g_sld (j := i + 2) hc hs (dL_620) (nI_add i 2) (by omega) hL ?_
  refine g_callVi ([.int (xs (i + 1)), .int (xs (i + 2))]) hc wvL_74 (dL_621) rfl rfl (d' := 120) (by omega) (Nat.le_of_ble_eq_true rfl) (cX11_finds_ok (K := fun q => q = (r, M1)) (by omega) (xs (i + 1)) (xs (i + 2)) M ⟨_, e1, rfl⟩) (fun r0 N0 q0 => ?_)
  rw [(Prod.mk.inj q0).1, (Prod.mk.inj q0).2]
  refine g_aload_n (i := 2) (x := 36) hc (dL_624) rfl rfl ?_
  refine g_aload_n (i := 0) (x := 148) hc (dL_625) rfl rfl ?_
  refine g_iload (i := 4) (x := nI i) hc (dL_626) rfl ?_
  refine g_iconst (v := 1) hc (dL_628) (by decide) ?_
  refine g_iadd hc (dL_629) ?_
  refine g_sld (j := i + 1) hc hs (dL_630) (nI_add i 1) (by omega) hL ?_
  refine g_aload_n (i := 0) (x := 148) hc (dL_631) rfl rfl ?_
  refine g_iload (i := 4) (x := nI i) hc (dL_632) rfl ?_
  refine g_iconst (v := 2) hc (dL_634) (by decide) ?_
  refine g_iadd hc (dL_635) ?_
  refine g_sld (j := i + 2) hc hs (dL_636) (nI_add i 2) (by omega) hL ?_
  refine g_callVi ([.int (xs (i + 1)), .int (xs (i + 2))]) hc wvL_77 (dL_637) rfl rfl (d' := 120) (by omega) (Nat.le_of_ble_eq_true rfl) (cX12_finds_ok (K := fun q => q = (r, M2)) (by omega) (xs (i + 1)) (xs (i + 2)) M1 ⟨_, e2, rfl⟩) (fun r1 N1 q1 => ?_)
  rw [(Prod.mk.inj q1).1, (Prod.mk.inj q1).2]
  exact g_icmp_eq hc (dL_640) (tgt := 1565) (by decide) (fun _ => k _ hR) (fun z => absurd rfl z)
theorem law_claim {E : zE} {Γ : zT} {d L i N : Nat} {xs : Nat → Int32} {M : zM} (hc : Cx E Γ RLw code 8 d) (hd : 121 ≤ d) (hs : Scr E Γ L xs) (hL : L ≤ 2560) (hi : i + 5 ≤ L) (hN : N < 1000) (h : RAll M N) (k : ∀ M2, RAll M2 (N + 1) → G E Γ 8 1565 (lvL i) [] M2) : G E Γ 8 645 (lvL i) [] M := by
  obtain ⟨r, M1, M2, e1, e2, hR⟩ := op_claim h (xs (i + 1)) (xs (i + 2))
  refine g_aload_n (i := 1) (x := 0) hc (dL_645) rfl rfl ?_
  refine g_aload_n (i := 0) (x := 148) hc (dL_646) rfl rfl ?_
  refine g_iload (i := 4) (x := nI i) hc (dL_647) rfl ?_
  refine g_iconst (v := 1) hc (dL_649) (by decide) ?_
  refine g_iadd hc (dL_650) ?_
  refine g_sld (j := i + 1) hc hs (dL_651) (nI_add i 1) (by omega) hL ?_
  refine g_aload_n (i := 0) (x := 148) hc (dL_652) rfl rfl ?_
  refine g_iload (i := 4) (x := nI i) hc (dL_653) rfl ?_
  refine g_iconst (v := 2) hc (dL_655) (by decide) ?_
  refine g_iadd hc (dL_656) ?_
  refine g_sld (j := i + 2) hc hs (dL_657) (nI_add i 2) (by omega) hL ?_
  refine g_callVi ([.int (xs (i + 1)), .int (xs (i + 2))]) hc wvL_78 (dL_658) rfl rfl (d' := 120) (by omega) (Nat.le_of_ble_eq_true rfl) (cX11_claim_ok (K := fun q => q = (r, M1)) (by omega) (xs (i + 1)) (xs (i + 2)) M ⟨_, e1, rfl⟩) (fun r0 N0 q0 => ?_)
  rw [(Prod.mk.inj q0).1, (Prod.mk.inj q0).2]
  refine g_aload_n (i := 2) (x := 36) hc (dL_661) rfl rfl ?_
  refine g_aload_n (i := 0) (x := 148) hc (dL_662) rfl rfl ?_
  refine g_iload (i := 4) (x := nI i) hc (dL_663) rfl ?_
  refine g_iconst (v := 1) hc (dL_665) (by decide) ?_
  refine g_iadd hc (dL_666) ?_
  refine g_sld (j := i + 1) hc hs (dL_667) (nI_add i 1) (by omega) hL ?_
  refine g_aload_n (i := 0) (x := 148) hc (dL_668) rfl rfl ?_
  refine g_iload (i := 4) (x := nI i) hc (dL_669) rfl ?_
  refine g_iconst (v := 2) hc (dL_671) (by decide) ?_
  refine g_iadd hc (dL_672) ?_
  refine g_sld (j := i + 2) hc hs (dL_673) (nI_add i 2) (by omega) hL ?_
  refine g_callVi ([.int (xs (i + 1)), .int (xs (i + 2))]) hc wvL_81 (dL_674) rfl rfl (d' := 120) (by omega) (Nat.le_of_ble_eq_true rfl) (cX12_claim_ok (K := fun q => q = (r, M2)) (by omega) (xs (i + 1)) (xs (i + 2)) M1 ⟨_, e2, rfl⟩) (fun r1 N1 q1 => ?_)
  rw [(Prod.mk.inj q1).1, (Prod.mk.inj q1).2]
  exact g_icmp_eq hc (dL_677) (tgt := 1565) (by decide) (fun _ => k _ hR) (fun z => absurd rfl z)
theorem law_gives {E : zE} {Γ : zT} {d L i N : Nat} {xs : Nat → Int32} {M : zM} (hc : Cx E Γ RLw code 8 d) (hd : 121 ≤ d) (hs : Scr E Γ L xs) (hL : L ≤ 2560) (hi : i + 5 ≤ L) (hN : N < 1000) (h : RAll M N) (k : ∀ M2, RAll M2 (N + 1) → G E Γ 8 1565 (lvL i) [] M2) : G E Γ 8 682 (lvL i) [] M := by
  obtain ⟨r, M1, M2, e1, e2, hR⟩ := op_gives h (xs (i + 1)) (xs (i + 2))
  refine g_aload_n (i := 1) (x := 0) hc (dL_682) rfl rfl ?_
  refine g_aload_n (i := 0) (x := 148) hc (dL_683) rfl rfl ?_
  refine g_iload (i := 4) (x := nI i) hc (dL_684) rfl ?_
  refine g_iconst (v := 1) hc (dL_686) (by decide) ?_
  refine g_iadd hc (dL_687) ?_
  refine g_sld (j := i + 1) hc hs (dL_688) (nI_add i 1) (by omega) hL ?_
  refine g_aload_n (i := 0) (x := 148) hc (dL_689) rfl rfl ?_
  refine g_iload (i := 4) (x := nI i) hc (dL_690) rfl ?_
  refine g_iconst (v := 2) hc (dL_692) (by decide) ?_
  refine g_iadd hc (dL_693) ?_
  refine g_sld (j := i + 2) hc hs (dL_694) (nI_add i 2) (by omega) hL ?_
  refine g_callVi ([.int (xs (i + 1)), .int (xs (i + 2))]) hc wvL_82 (dL_695) rfl rfl (d' := 120) (by omega) (Nat.le_of_ble_eq_true rfl) (cX11_gives_ok (K := fun q => q = (r, M1)) (by omega) (xs (i + 1)) (xs (i + 2)) M ⟨_, e1, rfl⟩) (fun r0 N0 q0 => ?_)
  rw [(Prod.mk.inj q0).1, (Prod.mk.inj q0).2]
  refine g_aload_n (i := 2) (x := 36) hc (dL_698) rfl rfl ?_
  refine g_aload_n (i := 0) (x := 148) hc (dL_699) rfl rfl ?_
  refine g_iload (i := 4) (x := nI i) hc (dL_700) rfl ?_
  refine g_iconst (v := 1) hc (dL_702) (by decide) ?_
  refine g_iadd hc (dL_703) ?_
  refine g_sld (j := i + 1) hc hs (dL_704) (nI_add i 1) (by omega) hL ?_
  refine g_aload_n (i := 0) (x := 148) hc (dL_705) rfl rfl ?_
  refine g_iload (i := 4) (x := nI i) hc (dL_706) rfl ?_
  refine g_iconst (v := 2) hc (dL_708) (by decide) ?_
  refine g_iadd hc (dL_709) ?_
  refine g_sld (j := i + 2) hc hs (dL_710) (nI_add i 2) (by omega) hL ?_
  refine g_callVi ([.int (xs (i + 1)), .int (xs (i + 2))]) hc wvL_85 (dL_711) rfl rfl (d' := 120) (by omega) (Nat.le_of_ble_eq_true rfl) (cX12_gives_ok (K := fun q => q = (r, M2)) (by omega) (xs (i + 1)) (xs (i + 2)) M1 ⟨_, e2, rfl⟩) (fun r1 N1 q1 => ?_)
  rw [(Prod.mk.inj q1).1, (Prod.mk.inj q1).2]
  exact g_icmp_eq hc (dL_714) (tgt := 1565) (by decide) (fun _ => k _ hR) (fun z => absurd rfl z)
theorem law_days {E : zE} {Γ : zT} {d L i N : Nat} {xs : Nat → Int32} {M : zM} (hc : Cx E Γ RLw code 8 d) (hd : 121 ≤ d) (hs : Scr E Γ L xs) (hL : L ≤ 2560) (hi : i + 5 ≤ L) (hN : N < 1000) (h : RAll M N) (k : ∀ M2, RAll M2 (N + 1) → G E Γ 8 1565 (lvL i) [] M2) : G E Γ 8 719 (lvL i) [] M := by
  obtain ⟨r, M1, M2, e1, e2, hR⟩ := op_days h (xs (i + 1))
  refine g_aload_n (i := 1) (x := 0) hc (dL_719) rfl rfl ?_
  refine g_aload_n (i := 0) (x := 148) hc (dL_720) rfl rfl ?_
  refine g_iload (i := 4) (x := nI i) hc (dL_721) rfl ?_
  refine g_iconst (v := 1) hc (dL_723) (by decide) ?_
  refine g_iadd hc (dL_724) ?_
  refine g_sld (j := i + 1) hc hs (dL_725) (nI_add i 1) (by omega) hL ?_
  refine g_callVi ([.int (xs (i + 1))]) hc wvL_86 (dL_726) rfl rfl (d' := 120) (by omega) (Nat.le_of_ble_eq_true rfl) (cX11_days_ok (K := fun q => q = (r, M1)) (by omega) (xs (i + 1)) M ⟨_, e1, rfl⟩) (fun r0 N0 q0 => ?_)
  rw [(Prod.mk.inj q0).1, (Prod.mk.inj q0).2]
  refine g_aload_n (i := 2) (x := 36) hc (dL_729) rfl rfl ?_
  refine g_aload_n (i := 0) (x := 148) hc (dL_730) rfl rfl ?_
  refine g_iload (i := 4) (x := nI i) hc (dL_731) rfl ?_
  refine g_iconst (v := 1) hc (dL_733) (by decide) ?_
  refine g_iadd hc (dL_734) ?_
  refine g_sld (j := i + 1) hc hs (dL_735) (nI_add i 1) (by omega) hL ?_
  refine g_callVi ([.int (xs (i + 1))]) hc wvL_89 (dL_736) rfl rfl (d' := 120) (by omega) (Nat.le_of_ble_eq_true rfl) (cX12_days_ok (K := fun q => q = (r, M2)) (by omega) (xs (i + 1)) M1 ⟨_, e2, rfl⟩) (fun r1 N1 q1 => ?_)
  rw [(Prod.mk.inj q1).1, (Prod.mk.inj q1).2]
  exact g_icmp_eq hc (dL_739) (tgt := 1565) (by decide) (fun _ => k _ hR) (fun z => absurd rfl z)
theorem law_year {E : zE} {Γ : zT} {d L i N : Nat} {xs : Nat → Int32} {M : zM} (hc : Cx E Γ RLw code 8 d) (hd : 121 ≤ d) (hs : Scr E Γ L xs) (hL : L ≤ 2560) (hi : i + 5 ≤ L) (hN : N < 1000) (h : RAll M N) (k : ∀ M2, RAll M2 (N + 1) → G E Γ 8 1565 (lvL i) [] M2) : G E Γ 8 744 (lvL i) [] M := by
  obtain ⟨r, M1, M2, e1, e2, hR⟩ := op_year h 
  refine g_aload_n (i := 1) (x := 0) hc (dL_744) rfl rfl ?_
  refine g_callVi ([]) hc wvL_90 (dL_745) rfl rfl (d' := 120) (by omega) (Nat.le_of_ble_eq_true rfl) (cX11_year_ok (K := fun q => q = (r, M1)) (by omega)  M ⟨_, e1, rfl⟩) (fun r0 N0 q0 => ?_)
  rw [(Prod.mk.inj q0).1, (Prod.mk.inj q0).2]
  refine g_aload_n (i := 2) (x := 36) hc (dL_748) rfl rfl ?_
  refine g_callVi ([]) hc wvL_93 (dL_749) rfl rfl (d' := 120) (by omega) (Nat.le_of_ble_eq_true rfl) (cX12_year_ok (K := fun q => q = (r, M2)) (by omega)  M1 ⟨_, e2, rfl⟩) (fun r1 N1 q1 => ?_)
  rw [(Prod.mk.inj q1).1, (Prod.mk.inj q1).2]
  exact g_icmp_eq hc (dL_752) (tgt := 1565) (by decide) (fun _ => k _ hR) (fun z => absurd rfl z)
theorem law_undo {E : zE} {Γ : zT} {d L i N : Nat} {xs : Nat → Int32} {M : zM} (hc : Cx E Γ RLw code 8 d) (hd : 121 ≤ d) (hs : Scr E Γ L xs) (hL : L ≤ 2560) (hi : i + 5 ≤ L) (hN : N < 1000) (h : RAll M N) (k : ∀ M2, RAll M2 (N + 1) → G E Γ 8 1565 (lvL i) [] M2) : G E Γ 8 757 (lvL i) [] M := by
  obtain ⟨r, M1, M2, e1, e2, hR⟩ := op_undo h 
  refine g_aload_n (i := 1) (x := 0) hc (dL_757) rfl rfl ?_
  refine g_callVi ([]) hc wvL_94 (dL_758) rfl rfl (d' := 120) (by omega) (Nat.le_of_ble_eq_true rfl) (cX11_undo_ok (K := fun q => q = (r, M1)) (by omega)  M ⟨_, e1, rfl⟩) (fun r0 N0 q0 => ?_)
  rw [(Prod.mk.inj q0).1, (Prod.mk.inj q0).2]
  refine g_aload_n (i := 2) (x := 36) hc (dL_761) rfl rfl ?_
  refine g_callVi ([]) hc wvL_97 (dL_762) rfl rfl (d' := 120) (by omega) (Nat.le_of_ble_eq_true rfl) (cX12_undo_ok (K := fun q => q = (r, M2)) (by omega)  M1 ⟨_, e2, rfl⟩) (fun r1 N1 q1 => ?_)
  rw [(Prod.mk.inj q1).1, (Prod.mk.inj q1).2]
  exact g_icmp_eq hc (dL_765) (tgt := 1565) (by decide) (fun _ => k _ hR) (fun z => absurd rfl z)
theorem law_match {E : zE} {Γ : zT} {d L i N : Nat} {xs : Nat → Int32} {M : zM} (hc : Cx E Γ RLw code 8 d) (hd : 121 ≤ d) (hs : Scr E Γ L xs) (hL : L ≤ 2560) (hi : i + 5 ≤ L) (hN : N < 1000) (h : RAll M N) (k : ∀ M2, RAll M2 (N + 1) → G E Γ 8 1565 (lvL i) [] M2) : G E Γ 8 770 (lvL i) [] M := by
  obtain ⟨n, nd, hS, hW, hX, hO, hP, hK, hC, hH, hU⟩ := id h
  obtain ⟨r, M1, M2, e1, e2, hR⟩ := OpQ.toS h (op_match hS hW hC hU hO (xs (i + 1)) (xs (i + 2)))
  refine g_aload_n (i := 1) (x := 0) hc (dL_770) rfl rfl ?_
  refine g_aload_n (i := 0) (x := 148) hc (dL_771) rfl rfl ?_
  refine g_iload (i := 4) (x := nI i) hc (dL_772) rfl ?_
  refine g_iconst (v := 1) hc (dL_774) (by decide) ?_
  refine g_iadd hc (dL_775) ?_
  refine g_sld (j := i + 1) hc hs (dL_776) (nI_add i 1) (by omega) hL ?_
  refine g_aload_n (i := 0) (x := 148) hc (dL_777) rfl rfl ?_
  refine g_iload (i := 4) (x := nI i) hc (dL_778) rfl ?_
  refine g_iconst (v := 2) hc (dL_780) (by decide) ?_
  refine g_iadd hc (dL_781) ?_
  refine g_sld (j := i + 2) hc hs (dL_782) (nI_add i 2) (by omega) hL ?_
  refine g_callVi ([.int (xs (i + 1)), .int (xs (i + 2))]) hc wvL_98 (dL_783) rfl rfl (d' := 120) (by omega) (Nat.le_of_ble_eq_true rfl) (cX11_match_ok (K := fun q => q = (r, M1)) (by omega) (xs (i + 1)) (xs (i + 2)) M ⟨_, e1, rfl⟩) (fun r0 N0 q0 => ?_)
  rw [(Prod.mk.inj q0).1, (Prod.mk.inj q0).2]
  refine g_aload_n (i := 2) (x := 36) hc (dL_786) rfl rfl ?_
  refine g_aload_n (i := 0) (x := 148) hc (dL_787) rfl rfl ?_
  refine g_iload (i := 4) (x := nI i) hc (dL_788) rfl ?_
  refine g_iconst (v := 1) hc (dL_790) (by decide) ?_
  refine g_iadd hc (dL_791) ?_
  refine g_sld (j := i + 1) hc hs (dL_792) (nI_add i 1) (by omega) hL ?_
  refine g_aload_n (i := 0) (x := 148) hc (dL_793) rfl rfl ?_
  refine g_iload (i := 4) (x := nI i) hc (dL_794) rfl ?_
  refine g_iconst (v := 2) hc (dL_796) (by decide) ?_
  refine g_iadd hc (dL_797) ?_
  refine g_sld (j := i + 2) hc hs (dL_798) (nI_add i 2) (by omega) hL ?_
  refine g_callVi ([.int (xs (i + 1)), .int (xs (i + 2))]) hc wvL_101 (dL_799) rfl rfl (d' := 120) (by omega) (Nat.le_of_ble_eq_true rfl) (cX12_match_ok (K := fun q => q = (r, M2)) (by omega) (xs (i + 1)) (xs (i + 2)) M1 ⟨_, e2, rfl⟩) (fun r1 N1 q1 => ?_)
  rw [(Prod.mk.inj q1).1, (Prod.mk.inj q1).2]
  exact g_icmp_eq hc (dL_802) (tgt := 1565) (by decide) (fun _ => k _ hR) (fun z => absurd rfl z)
theorem law_gets {E : zE} {Γ : zT} {d L i N : Nat} {xs : Nat → Int32} {M : zM} (hc : Cx E Γ RLw code 8 d) (hd : 121 ≤ d) (hs : Scr E Γ L xs) (hL : L ≤ 2560) (hi : i + 5 ≤ L) (hN : N < 1000) (h : RAll M N) (k : ∀ M2, RAll M2 (N + 1) → G E Γ 8 1565 (lvL i) [] M2) : G E Γ 8 807 (lvL i) [] M := by
  obtain ⟨n, nd, hS, hW, hX, hO, hP, hK, hC, hH, hU⟩ := id h
  obtain ⟨r, M1, M2, e1, e2, hR⟩ := OpQ.toS h (op_gets hS hW hC hU hO (xs (i + 1)))
  refine g_aload_n (i := 1) (x := 0) hc (dL_807) rfl rfl ?_
  refine g_aload_n (i := 0) (x := 148) hc (dL_808) rfl rfl ?_
  refine g_iload (i := 4) (x := nI i) hc (dL_809) rfl ?_
  refine g_iconst (v := 1) hc (dL_811) (by decide) ?_
  refine g_iadd hc (dL_812) ?_
  refine g_sld (j := i + 1) hc hs (dL_813) (nI_add i 1) (by omega) hL ?_
  refine g_callVi ([.int (xs (i + 1))]) hc wvL_102 (dL_814) rfl rfl (d' := 120) (by omega) (Nat.le_of_ble_eq_true rfl) (cX11_gets_ok (K := fun q => q = (r, M1)) (by omega) (xs (i + 1)) M ⟨_, e1, rfl⟩) (fun r0 N0 q0 => ?_)
  rw [(Prod.mk.inj q0).1, (Prod.mk.inj q0).2]
  refine g_aload_n (i := 2) (x := 36) hc (dL_817) rfl rfl ?_
  refine g_aload_n (i := 0) (x := 148) hc (dL_818) rfl rfl ?_
  refine g_iload (i := 4) (x := nI i) hc (dL_819) rfl ?_
  refine g_iconst (v := 1) hc (dL_821) (by decide) ?_
  refine g_iadd hc (dL_822) ?_
  refine g_sld (j := i + 1) hc hs (dL_823) (nI_add i 1) (by omega) hL ?_
  refine g_callVi ([.int (xs (i + 1))]) hc wvL_105 (dL_824) rfl rfl (d' := 120) (by omega) (Nat.le_of_ble_eq_true rfl) (cX12_gets_ok (K := fun q => q = (r, M2)) (by omega) (xs (i + 1)) M1 ⟨_, e2, rfl⟩) (fun r1 N1 q1 => ?_)
  rw [(Prod.mk.inj q1).1, (Prod.mk.inj q1).2]
  exact g_icmp_eq hc (dL_827) (tgt := 1565) (by decide) (fun _ => k _ hR) (fun z => absurd rfl z)
theorem law_fewest {E : zE} {Γ : zT} {d L i N : Nat} {xs : Nat → Int32} {M : zM} (hc : Cx E Γ RLw code 8 d) (hd : 121 ≤ d) (hs : Scr E Γ L xs) (hL : L ≤ 2560) (hi : i + 5 ≤ L) (hN : N < 1000) (h : RAll M N) (k : ∀ M2, RAll M2 (N + 1) → G E Γ 8 1565 (lvL i) [] M2) : G E Γ 8 832 (lvL i) [] M := by
  obtain ⟨n, nd, hS, hW, hX, hO, hP, hK, hC, hH, hU⟩ := id h
  obtain ⟨r, M1, M2, e1, e2, hR⟩ := OpQ.toS h (op_fewest hS hW hC hU hO (xs (i + 1)))
  refine g_aload_n (i := 1) (x := 0) hc (dL_832) rfl rfl ?_
  refine g_aload_n (i := 0) (x := 148) hc (dL_833) rfl rfl ?_
  refine g_iload (i := 4) (x := nI i) hc (dL_834) rfl ?_
  refine g_iconst (v := 1) hc (dL_836) (by decide) ?_
  refine g_iadd hc (dL_837) ?_
  refine g_sld (j := i + 1) hc hs (dL_838) (nI_add i 1) (by omega) hL ?_
  refine g_callVi ([.int (xs (i + 1))]) hc wvL_106 (dL_839) rfl rfl (d' := 120) (by omega) (Nat.le_of_ble_eq_true rfl) (cX11_fewest_ok (K := fun q => q = (r, M1)) (by omega) (xs (i + 1)) M ⟨_, e1, rfl⟩) (fun r0 N0 q0 => ?_)
  rw [(Prod.mk.inj q0).1, (Prod.mk.inj q0).2]
  refine g_aload_n (i := 2) (x := 36) hc (dL_842) rfl rfl ?_
  refine g_aload_n (i := 0) (x := 148) hc (dL_843) rfl rfl ?_
  refine g_iload (i := 4) (x := nI i) hc (dL_844) rfl ?_
  refine g_iconst (v := 1) hc (dL_846) (by decide) ?_
  refine g_iadd hc (dL_847) ?_
  refine g_sld (j := i + 1) hc hs (dL_848) (nI_add i 1) (by omega) hL ?_
  refine g_callVi ([.int (xs (i + 1))]) hc wvL_109 (dL_849) rfl rfl (d' := 120) (by omega) (Nat.le_of_ble_eq_true rfl) (cX12_fewest_ok (K := fun q => q = (r, M2)) (by omega) (xs (i + 1)) M1 ⟨_, e2, rfl⟩) (fun r1 N1 q1 => ?_)
  rw [(Prod.mk.inj q1).1, (Prod.mk.inj q1).2]
  exact g_icmp_eq hc (dL_852) (tgt := 1565) (by decide) (fun _ => k _ hR) (fun z => absurd rfl z)
theorem law_ways {E : zE} {Γ : zT} {d L i N : Nat} {xs : Nat → Int32} {M : zM} (hc : Cx E Γ RLw code 8 d) (hd : 121 ≤ d) (hs : Scr E Γ L xs) (hL : L ≤ 2560) (hi : i + 5 ≤ L) (hN : N < 1000) (h : RAll M N) (k : ∀ M2, RAll M2 (N + 1) → G E Γ 8 1565 (lvL i) [] M2) : G E Γ 8 857 (lvL i) [] M := by
  obtain ⟨n, nd, hS, hW, hX, hO, hP, hK, hC, hH, hU⟩ := id h
  obtain ⟨r, M1, M2, e1, e2, hR⟩ := OpQ.toS h (op_ways hS hW hC hU hO (xs (i + 1)))
  refine g_aload_n (i := 1) (x := 0) hc (dL_857) rfl rfl ?_
  refine g_aload_n (i := 0) (x := 148) hc (dL_858) rfl rfl ?_
  refine g_iload (i := 4) (x := nI i) hc (dL_859) rfl ?_
  refine g_iconst (v := 1) hc (dL_861) (by decide) ?_
  refine g_iadd hc (dL_862) ?_
  refine g_sld (j := i + 1) hc hs (dL_863) (nI_add i 1) (by omega) hL ?_
  refine g_callVi ([.int (xs (i + 1))]) hc wvL_110 (dL_864) rfl rfl (d' := 120) (by omega) (Nat.le_of_ble_eq_true rfl) (cX11_ways_ok (K := fun q => q = (r, M1)) (by omega) (xs (i + 1)) M ⟨_, e1, rfl⟩) (fun r0 N0 q0 => ?_)
  rw [(Prod.mk.inj q0).1, (Prod.mk.inj q0).2]
  refine g_aload_n (i := 2) (x := 36) hc (dL_867) rfl rfl ?_
  refine g_aload_n (i := 0) (x := 148) hc (dL_868) rfl rfl ?_
  refine g_iload (i := 4) (x := nI i) hc (dL_869) rfl ?_
  refine g_iconst (v := 1) hc (dL_871) (by decide) ?_
  refine g_iadd hc (dL_872) ?_
  refine g_sld (j := i + 1) hc hs (dL_873) (nI_add i 1) (by omega) hL ?_
  refine g_callVi ([.int (xs (i + 1))]) hc wvL_113 (dL_874) rfl rfl (d' := 120) (by omega) (Nat.le_of_ble_eq_true rfl) (cX12_ways_ok (K := fun q => q = (r, M2)) (by omega) (xs (i + 1)) M1 ⟨_, e2, rfl⟩) (fun r1 N1 q1 => ?_)
  rw [(Prod.mk.inj q1).1, (Prod.mk.inj q1).2]
  exact g_icmp_eq hc (dL_877) (tgt := 1565) (by decide) (fun _ => k _ hR) (fun z => absurd rfl z)
theorem law_shares {E : zE} {Γ : zT} {d L i N : Nat} {xs : Nat → Int32} {M : zM} (hc : Cx E Γ RLw code 8 d) (hd : 121 ≤ d) (hs : Scr E Γ L xs) (hL : L ≤ 2560) (hi : i + 5 ≤ L) (hN : N < 1000) (h : RAll M N) (k : ∀ M2, RAll M2 (N + 1) → G E Γ 8 1565 (lvL i) [] M2) : G E Γ 8 882 (lvL i) [] M := by
  obtain ⟨r, M1, M2, e1, e2, hR⟩ := op_shares h 
  refine g_aload_n (i := 1) (x := 0) hc (dL_882) rfl rfl ?_
  refine g_callVi ([]) hc wvL_114 (dL_883) rfl rfl (d' := 120) (by omega) (Nat.le_of_ble_eq_true rfl) (cX11_shares_ok (K := fun q => q = (r, M1)) (by omega)  M ⟨_, e1, rfl⟩) (fun r0 N0 q0 => ?_)
  rw [(Prod.mk.inj q0).1, (Prod.mk.inj q0).2]
  refine g_aload_n (i := 2) (x := 36) hc (dL_886) rfl rfl ?_
  refine g_callVi ([]) hc wvL_117 (dL_887) rfl rfl (d' := 120) (by omega) (Nat.le_of_ble_eq_true rfl) (cX12_shares_ok (K := fun q => q = (r, M2)) (by omega)  M1 ⟨_, e2, rfl⟩) (fun r1 N1 q1 => ?_)
  rw [(Prod.mk.inj q1).1, (Prod.mk.inj q1).2]
  exact g_icmp_eq hc (dL_890) (tgt := 1565) (by decide) (fun _ => k _ hR) (fun z => absurd rfl z)
theorem law_until {E : zE} {Γ : zT} {d L i N : Nat} {xs : Nat → Int32} {M : zM} (hc : Cx E Γ RLw code 8 d) (hd : 121 ≤ d) (hs : Scr E Γ L xs) (hL : L ≤ 2560) (hi : i + 5 ≤ L) (hN : N < 1000) (h : RAll M N) (k : ∀ M2, RAll M2 (N + 1) → G E Γ 8 1565 (lvL i) [] M2) : G E Γ 8 895 (lvL i) [] M := by
  obtain ⟨n, nd, hS, hW, hX, hO, hP, hK, hC, hH, hU⟩ := id h
  obtain ⟨r, M1, M2, e1, e2, hR⟩ := OpQ.toS h (op_until hS hW hC hO (xs (i + 1)))
  refine g_aload_n (i := 1) (x := 0) hc (dL_895) rfl rfl ?_
  refine g_aload_n (i := 0) (x := 148) hc (dL_896) rfl rfl ?_
  refine g_iload (i := 4) (x := nI i) hc (dL_897) rfl ?_
  refine g_iconst (v := 1) hc (dL_899) (by decide) ?_
  refine g_iadd hc (dL_900) ?_
  refine g_sld (j := i + 1) hc hs (dL_901) (nI_add i 1) (by omega) hL ?_
  obtain ⟨v, ev, eq⟩ := Option.map_eq_some_iff.mp e1
  obtain ⟨ea, eb⟩ := Prod.mk.inj eq
  refine g_callVi ([.int (xs (i + 1))]) hc wvL_118 (dL_902) rfl rfl (d' := 120) (by omega) (Nat.le_of_ble_eq_true rfl) (cX11_until_ok (K := fun q => q = v) (by omega) (xs (i + 1)) M ⟨v, ev, rfl⟩) (fun r1 N1 q1 => ?_)
  rw [q1.2, ← q1.1, ea, eb]
  refine g_aload_n (i := 2) (x := 36) hc (dL_905) rfl rfl ?_
  refine g_aload_n (i := 0) (x := 148) hc (dL_906) rfl rfl ?_
  refine g_iload (i := 4) (x := nI i) hc (dL_907) rfl ?_
  refine g_iconst (v := 1) hc (dL_909) (by decide) ?_
  refine g_iadd hc (dL_910) ?_
  refine g_sld (j := i + 1) hc hs (dL_911) (nI_add i 1) (by omega) hL ?_
  refine g_callVi ([.int (xs (i + 1))]) hc wvL_121 (dL_912) rfl rfl (d' := 120) (by omega) (Nat.le_of_ble_eq_true rfl) (cX12_until_ok (K := fun q => q = (r, M2)) (by omega) (xs (i + 1)) M1 ⟨_, e2, rfl⟩) (fun r1 N1 q1 => ?_)
  rw [(Prod.mk.inj q1).1, (Prod.mk.inj q1).2]
  exact g_icmp_eq hc (dL_915) (tgt := 1565) (by decide) (fun _ => k _ hR) (fun z => absurd rfl z)
theorem law_later {E : zE} {Γ : zT} {d L i N : Nat} {xs : Nat → Int32} {M : zM} (hc : Cx E Γ RLw code 8 d) (hd : 121 ≤ d) (hs : Scr E Γ L xs) (hL : L ≤ 2560) (hi : i + 5 ≤ L) (hN : N < 1000) (h : RAll M N) (k : ∀ M2, RAll M2 (N + 1) → G E Γ 8 1565 (lvL i) [] M2) : G E Γ 8 920 (lvL i) [] M := by
  obtain ⟨n, nd, hS, hW, hX, hO, hP, hK, hC, hH, hU⟩ := id h
  obtain ⟨r, M1, M2, e1, e2, hR⟩ := OpQ.toS h (op_later hS hW hC hO (xs (i + 1)))
  refine g_aload_n (i := 1) (x := 0) hc (dL_920) rfl rfl ?_
  refine g_aload_n (i := 0) (x := 148) hc (dL_921) rfl rfl ?_
  refine g_iload (i := 4) (x := nI i) hc (dL_922) rfl ?_
  refine g_iconst (v := 1) hc (dL_924) (by decide) ?_
  refine g_iadd hc (dL_925) ?_
  refine g_sld (j := i + 1) hc hs (dL_926) (nI_add i 1) (by omega) hL ?_
  refine g_callVi ([.int (xs (i + 1))]) hc wvL_122 (dL_927) rfl rfl (d' := 120) (by omega) (Nat.le_of_ble_eq_true rfl) (cX11_later_ok (K := fun q => q = (r, M1)) (by omega) (xs (i + 1)) M ⟨_, e1, rfl⟩) (fun r0 N0 q0 => ?_)
  rw [(Prod.mk.inj q0).1, (Prod.mk.inj q0).2]
  refine g_aload_n (i := 2) (x := 36) hc (dL_930) rfl rfl ?_
  refine g_aload_n (i := 0) (x := 148) hc (dL_931) rfl rfl ?_
  refine g_iload (i := 4) (x := nI i) hc (dL_932) rfl ?_
  refine g_iconst (v := 1) hc (dL_934) (by decide) ?_
  refine g_iadd hc (dL_935) ?_
  refine g_sld (j := i + 1) hc hs (dL_936) (nI_add i 1) (by omega) hL ?_
  refine g_callVi ([.int (xs (i + 1))]) hc wvL_125 (dL_937) rfl rfl (d' := 120) (by omega) (Nat.le_of_ble_eq_true rfl) (cX12_later_ok (K := fun q => q = (r, M2)) (by omega) (xs (i + 1)) M1 ⟨_, e2, rfl⟩) (fun r1 N1 q1 => ?_)
  rw [(Prod.mk.inj q1).1, (Prod.mk.inj q1).2]
  exact g_icmp_eq hc (dL_940) (tgt := 1565) (by decide) (fun _ => k _ hR) (fun z => absurd rfl z)
theorem law_advantage {E : zE} {Γ : zT} {d L i N : Nat} {xs : Nat → Int32} {M : zM} (hc : Cx E Γ RLw code 8 d) (hd : 121 ≤ d) (hs : Scr E Γ L xs) (hL : L ≤ 2560) (hi : i + 5 ≤ L) (hN : N < 1000) (h : RAll M N) (k : ∀ M2, RAll M2 (N + 1) → G E Γ 8 1565 (lvL i) [] M2) : G E Γ 8 945 (lvL i) [] M := by
  obtain ⟨n, nd, hS, hW, hX, hO, hP, hK, hC, hH, hU⟩ := id h
  obtain ⟨r, M1, M2, e1, e2, hR⟩ := OpQ.toS h (op_advantage hS hW )
  refine g_aload_n (i := 1) (x := 0) hc (dL_945) rfl rfl ?_
  refine g_callVi ([]) hc wvL_126 (dL_946) rfl rfl (d' := 120) (by omega) (Nat.le_of_ble_eq_true rfl) (cX11_advantage_ok (K := fun q => q = (r, M1)) (by omega)  M ⟨_, e1, rfl⟩) (fun r0 N0 q0 => ?_)
  rw [(Prod.mk.inj q0).1, (Prod.mk.inj q0).2]
  refine g_aload_n (i := 2) (x := 36) hc (dL_949) rfl rfl ?_
  refine g_callVi ([]) hc wvL_129 (dL_950) rfl rfl (d' := 120) (by omega) (Nat.le_of_ble_eq_true rfl) (cX12_advantage_ok (K := fun q => q = (r, M2)) (by omega)  M1 ⟨_, e2, rfl⟩) (fun r1 N1 q1 => ?_)
  rw [(Prod.mk.inj q1).1, (Prod.mk.inj q1).2]
  exact g_icmp_eq hc (dL_953) (tgt := 1565) (by decide) (fun _ => k _ hR) (fun z => absurd rfl z)
theorem law_soonest {E : zE} {Γ : zT} {d L i N : Nat} {xs : Nat → Int32} {M : zM} (hc : Cx E Γ RLw code 8 d) (hd : 121 ≤ d) (hs : Scr E Γ L xs) (hL : L ≤ 2560) (hi : i + 5 ≤ L) (hN : N < 1000) (h : RAll M N) (k : ∀ M2, RAll M2 (N + 1) → G E Γ 8 1565 (lvL i) [] M2) : G E Γ 8 958 (lvL i) [] M := by
  obtain ⟨n, nd, hS, hW, hX, hO, hP, hK, hC, hH, hU⟩ := id h
  obtain ⟨r, M1, M2, e1, e2, hR⟩ := OpQ.toS h (op_soonest hS hW hC hO )
  refine g_aload_n (i := 1) (x := 0) hc (dL_958) rfl rfl ?_
  refine g_callVi ([]) hc wvL_130 (dL_959) rfl rfl (d' := 120) (by omega) (Nat.le_of_ble_eq_true rfl) (cX11_soonest_ok (K := fun q => q = (r, M1)) (by omega)  M ⟨_, e1, rfl⟩) (fun r0 N0 q0 => ?_)
  rw [(Prod.mk.inj q0).1, (Prod.mk.inj q0).2]
  refine g_aload_n (i := 2) (x := 36) hc (dL_962) rfl rfl ?_
  refine g_callVi ([]) hc wvL_133 (dL_963) rfl rfl (d' := 120) (by omega) (Nat.le_of_ble_eq_true rfl) (cX12_soonest_ok (K := fun q => q = (r, M2)) (by omega)  M1 ⟨_, e2, rfl⟩) (fun r1 N1 q1 => ?_)
  rw [(Prod.mk.inj q1).1, (Prod.mk.inj q1).2]
  exact g_icmp_eq hc (dL_966) (tgt := 1565) (by decide) (fun _ => k _ hR) (fun z => absurd rfl z)
theorem law_confused {E : zE} {Γ : zT} {d L i N : Nat} {xs : Nat → Int32} {M : zM} (hc : Cx E Γ RLw code 8 d) (hd : 121 ≤ d) (hs : Scr E Γ L xs) (hL : L ≤ 2560) (hi : i + 5 ≤ L) (hN : N < 1000) (h : RAll M N) (k : ∀ M2, RAll M2 (N + 1) → G E Γ 8 1565 (lvL i) [] M2) : G E Γ 8 971 (lvL i) [] M := by
  obtain ⟨n, nd, hS, hW, hX, hO, hP, hK, hC, hH, hU⟩ := id h
  obtain ⟨r, M1, M2, e1, e2, hR⟩ := OpQ.toS h (op_confused hS hW hC hU hO (xs (i + 1)))
  refine g_aload_n (i := 1) (x := 0) hc (dL_971) rfl rfl ?_
  refine g_aload_n (i := 0) (x := 148) hc (dL_972) rfl rfl ?_
  refine g_iload (i := 4) (x := nI i) hc (dL_973) rfl ?_
  refine g_iconst (v := 1) hc (dL_975) (by decide) ?_
  refine g_iadd hc (dL_976) ?_
  refine g_sld (j := i + 1) hc hs (dL_977) (nI_add i 1) (by omega) hL ?_
  refine g_callVi ([.int (xs (i + 1))]) hc wvL_134 (dL_978) rfl rfl (d' := 120) (by omega) (Nat.le_of_ble_eq_true rfl) (cX11_confused_ok (K := fun q => q = (r, M1)) (by omega) (xs (i + 1)) M ⟨_, e1, rfl⟩) (fun r0 N0 q0 => ?_)
  rw [(Prod.mk.inj q0).1, (Prod.mk.inj q0).2]
  refine g_aload_n (i := 2) (x := 36) hc (dL_981) rfl rfl ?_
  refine g_aload_n (i := 0) (x := 148) hc (dL_982) rfl rfl ?_
  refine g_iload (i := 4) (x := nI i) hc (dL_983) rfl ?_
  refine g_iconst (v := 1) hc (dL_985) (by decide) ?_
  refine g_iadd hc (dL_986) ?_
  refine g_sld (j := i + 1) hc hs (dL_987) (nI_add i 1) (by omega) hL ?_
  refine g_callVi ([.int (xs (i + 1))]) hc wvL_137 (dL_988) rfl rfl (d' := 120) (by omega) (Nat.le_of_ble_eq_true rfl) (cX12_confused_ok (K := fun q => q = (r, M2)) (by omega) (xs (i + 1)) M1 ⟨_, e2, rfl⟩) (fun r1 N1 q1 => ?_)
  rw [(Prod.mk.inj q1).1, (Prod.mk.inj q1).2]
  exact g_icmp_eq hc (dL_991) (tgt := 1565) (by decide) (fun _ => k _ hR) (fun z => absurd rfl z)
theorem law_regains {E : zE} {Γ : zT} {d L i N : Nat} {xs : Nat → Int32} {M : zM} (hc : Cx E Γ RLw code 8 d) (hd : 121 ≤ d) (hs : Scr E Γ L xs) (hL : L ≤ 2560) (hi : i + 5 ≤ L) (hN : N < 1000) (h : RAll M N) (k : ∀ M2, RAll M2 (N + 1) → G E Γ 8 1565 (lvL i) [] M2) : G E Γ 8 996 (lvL i) [] M := by
  obtain ⟨n, nd, hS, hW, hX, hO, hP, hK, hC, hH, hU⟩ := id h
  obtain ⟨r, M1, M2, e1, e2, hR⟩ := OpQ.toS h (op_regains hS hW hO (xs (i + 1)))
  refine g_aload_n (i := 1) (x := 0) hc (dL_996) rfl rfl ?_
  refine g_aload_n (i := 0) (x := 148) hc (dL_997) rfl rfl ?_
  refine g_iload (i := 4) (x := nI i) hc (dL_998) rfl ?_
  refine g_iconst (v := 1) hc (dL_1000) (by decide) ?_
  refine g_iadd hc (dL_1001) ?_
  refine g_sld (j := i + 1) hc hs (dL_1002) (nI_add i 1) (by omega) hL ?_
  refine g_callVi ([.int (xs (i + 1))]) hc wvL_138 (dL_1003) rfl rfl (d' := 120) (by omega) (Nat.le_of_ble_eq_true rfl) (cX11_regains_ok (K := fun q => q = (r, M1)) (by omega) (xs (i + 1)) M ⟨_, e1, rfl⟩) (fun r0 N0 q0 => ?_)
  rw [(Prod.mk.inj q0).1, (Prod.mk.inj q0).2]
  refine g_aload_n (i := 2) (x := 36) hc (dL_1006) rfl rfl ?_
  refine g_aload_n (i := 0) (x := 148) hc (dL_1007) rfl rfl ?_
  refine g_iload (i := 4) (x := nI i) hc (dL_1008) rfl ?_
  refine g_iconst (v := 1) hc (dL_1010) (by decide) ?_
  refine g_iadd hc (dL_1011) ?_
  refine g_sld (j := i + 1) hc hs (dL_1012) (nI_add i 1) (by omega) hL ?_
  refine g_callVi ([.int (xs (i + 1))]) hc wvL_141 (dL_1013) rfl rfl (d' := 120) (by omega) (Nat.le_of_ble_eq_true rfl) (cX12_regains_ok (K := fun q => q = (r, M2)) (by omega) (xs (i + 1)) M1 ⟨_, e2, rfl⟩) (fun r1 N1 q1 => ?_)
  rw [(Prod.mk.inj q1).1, (Prod.mk.inj q1).2]
  exact g_icmp_eq hc (dL_1016) (tgt := 1565) (by decide) (fun _ => k _ hR) (fun z => absurd rfl z)
theorem law_said {E : zE} {Γ : zT} {d L i N : Nat} {xs : Nat → Int32} {M : zM} (hc : Cx E Γ RLw code 8 d) (hd : 121 ≤ d) (hs : Scr E Γ L xs) (hL : L ≤ 2560) (hi : i + 5 ≤ L) (hN : N < 1000) (h : RAll M N) (k : ∀ M2, RAll M2 (N + 1) → G E Γ 8 1565 (lvL i) [] M2) : G E Γ 8 1021 (lvL i) [] M := by
  obtain ⟨r, M1, M2, e1, e2, hR⟩ := op_said h (xs (i + 1)) (xs (i + 2))
  refine g_aload_n (i := 1) (x := 0) hc (dL_1021) rfl rfl ?_
  refine g_aload_n (i := 0) (x := 148) hc (dL_1022) rfl rfl ?_
  refine g_iload (i := 4) (x := nI i) hc (dL_1023) rfl ?_
  refine g_iconst (v := 1) hc (dL_1025) (by decide) ?_
  refine g_iadd hc (dL_1026) ?_
  refine g_sld (j := i + 1) hc hs (dL_1027) (nI_add i 1) (by omega) hL ?_
  refine g_aload_n (i := 0) (x := 148) hc (dL_1028) rfl rfl ?_
  refine g_iload (i := 4) (x := nI i) hc (dL_1029) rfl ?_
  refine g_iconst (v := 2) hc (dL_1031) (by decide) ?_
  refine g_iadd hc (dL_1032) ?_
  refine g_sld (j := i + 2) hc hs (dL_1033) (nI_add i 2) (by omega) hL ?_
  refine g_callVi ([.int (xs (i + 1)), .int (xs (i + 2))]) hc wvL_142 (dL_1034) rfl rfl (d' := 120) (by omega) (Nat.le_of_ble_eq_true rfl) (cX11_said_ok (K := fun q => q = (r, M1)) (by omega) (xs (i + 1)) (xs (i + 2)) M (Option.some.inj e1)) (fun r0 N0 q0 => ?_)
  rw [(Prod.mk.inj q0).1, (Prod.mk.inj q0).2]
  refine g_aload_n (i := 2) (x := 36) hc (dL_1037) rfl rfl ?_
  refine g_aload_n (i := 0) (x := 148) hc (dL_1038) rfl rfl ?_
  refine g_iload (i := 4) (x := nI i) hc (dL_1039) rfl ?_
  refine g_iconst (v := 1) hc (dL_1041) (by decide) ?_
  refine g_iadd hc (dL_1042) ?_
  refine g_sld (j := i + 1) hc hs (dL_1043) (nI_add i 1) (by omega) hL ?_
  refine g_aload_n (i := 0) (x := 148) hc (dL_1044) rfl rfl ?_
  refine g_iload (i := 4) (x := nI i) hc (dL_1045) rfl ?_
  refine g_iconst (v := 2) hc (dL_1047) (by decide) ?_
  refine g_iadd hc (dL_1048) ?_
  refine g_sld (j := i + 2) hc hs (dL_1049) (nI_add i 2) (by omega) hL ?_
  refine g_callVi ([.int (xs (i + 1)), .int (xs (i + 2))]) hc wvL_145 (dL_1050) rfl rfl (d' := 120) (by omega) (Nat.le_of_ble_eq_true rfl) (cX12_said_ok (K := fun q => q = (r, M2)) (by omega) (xs (i + 1)) (xs (i + 2)) M1 ⟨_, e2, rfl⟩) (fun r1 N1 q1 => ?_)
  rw [(Prod.mk.inj q1).1, (Prod.mk.inj q1).2]
  exact g_icmp_eq hc (dL_1053) (tgt := 1565) (by decide) (fun _ => k _ hR) (fun z => absurd rfl z)
theorem law_forget {E : zE} {Γ : zT} {d L i N : Nat} {xs : Nat → Int32} {M : zM} (hc : Cx E Γ RLw code 8 d) (hd : 121 ≤ d) (hs : Scr E Γ L xs) (hL : L ≤ 2560) (hi : i + 5 ≤ L) (hN : N < 1000) (h : RAll M N) (k : ∀ M2, RAll M2 (N + 1) → G E Γ 8 1565 (lvL i) [] M2) : G E Γ 8 1058 (lvL i) [] M := by
  obtain ⟨r, M1, M2, e1, e2, hR⟩ := op_forget h 
  refine g_aload_n (i := 1) (x := 0) hc (dL_1058) rfl rfl ?_
  refine g_callVi ([]) hc wvL_146 (dL_1059) rfl rfl (d' := 120) (by omega) (Nat.le_of_ble_eq_true rfl) (cX11_forget_ok (K := fun q => q = (r, M1)) (by omega)  M (Option.some.inj e1)) (fun r0 N0 q0 => ?_)
  rw [(Prod.mk.inj q0).1, (Prod.mk.inj q0).2]
  refine g_aload_n (i := 2) (x := 36) hc (dL_1062) rfl rfl ?_
  refine g_callVi ([]) hc wvL_149 (dL_1063) rfl rfl (d' := 120) (by omega) (Nat.le_of_ble_eq_true rfl) (cX12_forget_ok (K := fun q => q = (r, M2)) (by omega)  M1 (Option.some.inj e2)) (fun r1 N1 q1 => ?_)
  rw [(Prod.mk.inj q1).1, (Prod.mk.inj q1).2]
  exact g_icmp_eq hc (dL_1066) (tgt := 1565) (by decide) (fun _ => k _ hR) (fun z => absurd rfl z)
theorem law_fits {E : zE} {Γ : zT} {d L i N : Nat} {xs : Nat → Int32} {M : zM} (hc : Cx E Γ RLw code 8 d) (hd : 121 ≤ d) (hs : Scr E Γ L xs) (hL : L ≤ 2560) (hi : i + 5 ≤ L) (hN : N < 1000) (h : RAll M N) (k : ∀ M2, RAll M2 (N + 1) → G E Γ 8 1565 (lvL i) [] M2) : G E Γ 8 1071 (lvL i) [] M := by
  obtain ⟨n, nd, hS, hW, hX, hO, hP, hK, hC, hH, hU⟩ := id h
  obtain ⟨r, M1, M2, e1, e2, hR⟩ := OpQ.toS h (op_fits hS hH )
  refine g_aload_n (i := 1) (x := 0) hc (dL_1071) rfl rfl ?_
  refine g_callVi ([]) hc wvL_150 (dL_1072) rfl rfl (d' := 120) (by omega) (Nat.le_of_ble_eq_true rfl) (cX11_fits_ok (K := fun q => q = (r, M1)) (by omega)  M ⟨_, e1, rfl⟩) (fun r0 N0 q0 => ?_)
  rw [(Prod.mk.inj q0).1, (Prod.mk.inj q0).2]
  refine g_aload_n (i := 2) (x := 36) hc (dL_1075) rfl rfl ?_
  refine g_callVi ([]) hc wvL_153 (dL_1076) rfl rfl (d' := 120) (by omega) (Nat.le_of_ble_eq_true rfl) (cX12_fits_ok (K := fun q => q = (r, M2)) (by omega)  M1 ⟨_, e2, rfl⟩) (fun r1 N1 q1 => ?_)
  rw [(Prod.mk.inj q1).1, (Prod.mk.inj q1).2]
  exact g_icmp_eq hc (dL_1079) (tgt := 1565) (by decide) (fun _ => k _ hR) (fun z => absurd rfl z)
theorem law_ask {E : zE} {Γ : zT} {d L i N : Nat} {xs : Nat → Int32} {M : zM} (hc : Cx E Γ RLw code 8 d) (hd : 121 ≤ d) (hs : Scr E Γ L xs) (hL : L ≤ 2560) (hi : i + 5 ≤ L) (hN : N < 1000) (h : RAll M N) (k : ∀ M2, RAll M2 (N + 1) → G E Γ 8 1565 (lvL i) [] M2) : G E Γ 8 1084 (lvL i) [] M := by
  obtain ⟨n, nd, hS, hW, hX, hO, hP, hK, hC, hH, hU⟩ := id h
  obtain ⟨r, M1, M2, e1, e2, hR⟩ := OpQ.toS h (op_ask hS hH hO )
  refine g_aload_n (i := 1) (x := 0) hc (dL_1084) rfl rfl ?_
  refine g_callVi ([]) hc wvL_154 (dL_1085) rfl rfl (d' := 120) (by omega) (Nat.le_of_ble_eq_true rfl) (cX11_ask_ok (K := fun q => q = (r, M1)) (by omega)  M ⟨_, e1, rfl⟩) (fun r0 N0 q0 => ?_)
  rw [(Prod.mk.inj q0).1, (Prod.mk.inj q0).2]
  refine g_aload_n (i := 2) (x := 36) hc (dL_1088) rfl rfl ?_
  refine g_callVi ([]) hc wvL_157 (dL_1089) rfl rfl (d' := 120) (by omega) (Nat.le_of_ble_eq_true rfl) (cX12_ask_ok (K := fun q => q = (r, M2)) (by omega)  M1 ⟨_, e2, rfl⟩) (fun r1 N1 q1 => ?_)
  rw [(Prod.mk.inj q1).1, (Prod.mk.inj q1).2]
  exact g_icmp_eq hc (dL_1092) (tgt := 1565) (by decide) (fun _ => k _ hR) (fun z => absurd rfl z)
theorem law_tellsApart {E : zE} {Γ : zT} {d L i N : Nat} {xs : Nat → Int32} {M : zM} (hc : Cx E Γ RLw code 8 d) (hd : 121 ≤ d) (hs : Scr E Γ L xs) (hL : L ≤ 2560) (hi : i + 5 ≤ L) (hN : N < 1000) (h : RAll M N) (k : ∀ M2, RAll M2 (N + 1) → G E Γ 8 1565 (lvL i) [] M2) : G E Γ 8 1097 (lvL i) [] M := by
  obtain ⟨n, nd, hS, hW, hX, hO, hP, hK, hC, hH, hU⟩ := id h
  obtain ⟨r, M1, M2, e1, e2, hR⟩ := OpQ.toS h (op_tellsApart hS hO )
  refine g_aload_n (i := 1) (x := 0) hc (dL_1097) rfl rfl ?_
  refine g_callVi ([]) hc wvL_158 (dL_1098) rfl rfl (d' := 120) (by omega) (Nat.le_of_ble_eq_true rfl) (cX11_tellsApart_ok (K := fun q => q = (r, M1)) (by omega)  M ⟨_, e1, rfl⟩) (fun r0 N0 q0 => ?_)
  rw [(Prod.mk.inj q0).1, (Prod.mk.inj q0).2]
  refine g_aload_n (i := 2) (x := 36) hc (dL_1101) rfl rfl ?_
  refine g_callVi ([]) hc wvL_161 (dL_1102) rfl rfl (d' := 120) (by omega) (Nat.le_of_ble_eq_true rfl) (cX12_tellsApart_ok (K := fun q => q = (r, M2)) (by omega)  M1 ⟨_, e2, rfl⟩) (fun r1 N1 q1 => ?_)
  rw [(Prod.mk.inj q1).1, (Prod.mk.inj q1).2]
  exact g_icmp_eq hc (dL_1105) (tgt := 1565) (by decide) (fun _ => k _ hR) (fun z => absurd rfl z)
theorem law_alike {E : zE} {Γ : zT} {d L i N : Nat} {xs : Nat → Int32} {M : zM} (hc : Cx E Γ RLw code 8 d) (hd : 121 ≤ d) (hs : Scr E Γ L xs) (hL : L ≤ 2560) (hi : i + 5 ≤ L) (hN : N < 1000) (h : RAll M N) (k : ∀ M2, RAll M2 (N + 1) → G E Γ 8 1565 (lvL i) [] M2) : G E Γ 8 1110 (lvL i) [] M := by
  obtain ⟨n, nd, hS, hW, hX, hO, hP, hK, hC, hH, hU⟩ := id h
  obtain ⟨r, M1, M2, e1, e2, hR⟩ := OpQ.toS h (op_alike hS hO )
  refine g_aload_n (i := 1) (x := 0) hc (dL_1110) rfl rfl ?_
  refine g_callVi ([]) hc wvL_162 (dL_1111) rfl rfl (d' := 120) (by omega) (Nat.le_of_ble_eq_true rfl) (cX11_alike_ok (K := fun q => q = (r, M1)) (by omega)  M ⟨_, e1, rfl⟩) (fun r0 N0 q0 => ?_)
  rw [(Prod.mk.inj q0).1, (Prod.mk.inj q0).2]
  refine g_aload_n (i := 2) (x := 36) hc (dL_1114) rfl rfl ?_
  refine g_callVi ([]) hc wvL_165 (dL_1115) rfl rfl (d' := 120) (by omega) (Nat.le_of_ble_eq_true rfl) (cX12_alike_ok (K := fun q => q = (r, M2)) (by omega)  M1 ⟨_, e2, rfl⟩) (fun r1 N1 q1 => ?_)
  rw [(Prod.mk.inj q1).1, (Prod.mk.inj q1).2]
  exact g_icmp_eq hc (dL_1118) (tgt := 1565) (by decide) (fun _ => k _ hR) (fun z => absurd rfl z)
theorem law_looks {E : zE} {Γ : zT} {d L i N : Nat} {xs : Nat → Int32} {M : zM} (hc : Cx E Γ RLw code 8 d) (hd : 121 ≤ d) (hs : Scr E Γ L xs) (hL : L ≤ 2560) (hi : i + 5 ≤ L) (hN : N < 1000) (h : RAll M N) (k : ∀ M2, RAll M2 (N + 1) → G E Γ 8 1565 (lvL i) [] M2) : G E Γ 8 1123 (lvL i) [] M := by
  obtain ⟨r, M1, M2, e1, e2, hR⟩ := op_looks h (xs (i + 1))
  refine g_aload_n (i := 1) (x := 0) hc (dL_1123) rfl rfl ?_
  refine g_aload_n (i := 0) (x := 148) hc (dL_1124) rfl rfl ?_
  refine g_iload (i := 4) (x := nI i) hc (dL_1125) rfl ?_
  refine g_iconst (v := 1) hc (dL_1127) (by decide) ?_
  refine g_iadd hc (dL_1128) ?_
  refine g_sld (j := i + 1) hc hs (dL_1129) (nI_add i 1) (by omega) hL ?_
  refine g_callVi ([.int (xs (i + 1))]) hc wvL_166 (dL_1130) rfl rfl (d' := 120) (by omega) (Nat.le_of_ble_eq_true rfl) (cX11_looks_ok (K := fun q => q = (r, M1)) (by omega) (xs (i + 1)) M ⟨_, e1, rfl⟩) (fun r0 N0 q0 => ?_)
  rw [(Prod.mk.inj q0).1, (Prod.mk.inj q0).2]
  refine g_aload_n (i := 2) (x := 36) hc (dL_1133) rfl rfl ?_
  refine g_aload_n (i := 0) (x := 148) hc (dL_1134) rfl rfl ?_
  refine g_iload (i := 4) (x := nI i) hc (dL_1135) rfl ?_
  refine g_iconst (v := 1) hc (dL_1137) (by decide) ?_
  refine g_iadd hc (dL_1138) ?_
  refine g_sld (j := i + 1) hc hs (dL_1139) (nI_add i 1) (by omega) hL ?_
  refine g_callVi ([.int (xs (i + 1))]) hc wvL_169 (dL_1140) rfl rfl (d' := 120) (by omega) (Nat.le_of_ble_eq_true rfl) (cX12_looks_ok (K := fun q => q = (r, M2)) (by omega) (xs (i + 1)) M1 ⟨_, e2, rfl⟩) (fun r1 N1 q1 => ?_)
  rw [(Prod.mk.inj q1).1, (Prod.mk.inj q1).2]
  exact g_icmp_eq hc (dL_1143) (tgt := 1565) (by decide) (fun _ => k _ hR) (fun z => absurd rfl z)
theorem law_strays {E : zE} {Γ : zT} {d L i N : Nat} {xs : Nat → Int32} {M : zM} (hc : Cx E Γ RLw code 8 d) (hd : 121 ≤ d) (hs : Scr E Γ L xs) (hL : L ≤ 2560) (hi : i + 5 ≤ L) (hN : N < 1000) (h : RAll M N) (k : ∀ M2, RAll M2 (N + 1) → G E Γ 8 1565 (lvL i) [] M2) : G E Γ 8 1148 (lvL i) [] M := by
  obtain ⟨n, nd, hS, hW, hX, hO, hP, hK, hC, hH, hU⟩ := id h
  obtain ⟨r, M1, M2, e1, e2, hR⟩ := OpQ.toS h (op_strays hO (xs (i + 1)) (xs (i + 2)) (xs (i + 3)))
  refine g_aload_n (i := 1) (x := 0) hc (dL_1148) rfl rfl ?_
  refine g_aload_n (i := 0) (x := 148) hc (dL_1149) rfl rfl ?_
  refine g_iload (i := 4) (x := nI i) hc (dL_1150) rfl ?_
  refine g_iconst (v := 1) hc (dL_1152) (by decide) ?_
  refine g_iadd hc (dL_1153) ?_
  refine g_sld (j := i + 1) hc hs (dL_1154) (nI_add i 1) (by omega) hL ?_
  refine g_aload_n (i := 0) (x := 148) hc (dL_1155) rfl rfl ?_
  refine g_iload (i := 4) (x := nI i) hc (dL_1156) rfl ?_
  refine g_iconst (v := 2) hc (dL_1158) (by decide) ?_
  refine g_iadd hc (dL_1159) ?_
  refine g_sld (j := i + 2) hc hs (dL_1160) (nI_add i 2) (by omega) hL ?_
  refine g_aload_n (i := 0) (x := 148) hc (dL_1161) rfl rfl ?_
  refine g_iload (i := 4) (x := nI i) hc (dL_1162) rfl ?_
  refine g_iconst (v := 3) hc (dL_1164) (by decide) ?_
  refine g_iadd hc (dL_1165) ?_
  refine g_sld (j := i + 3) hc hs (dL_1166) (nI_add i 3) (by omega) hL ?_
  refine g_callVi ([.int (xs (i + 1)), .int (xs (i + 2)), .int (xs (i + 3))]) hc wvL_170 (dL_1167) rfl rfl (d' := 120) (by omega) (Nat.le_of_ble_eq_true rfl) (cX11_strays_ok (K := fun q => q = (r, M1)) (by omega) (xs (i + 1)) (xs (i + 2)) (xs (i + 3)) M ⟨_, e1, rfl⟩) (fun r0 N0 q0 => ?_)
  rw [(Prod.mk.inj q0).1, (Prod.mk.inj q0).2]
  refine g_aload_n (i := 2) (x := 36) hc (dL_1170) rfl rfl ?_
  refine g_aload_n (i := 0) (x := 148) hc (dL_1171) rfl rfl ?_
  refine g_iload (i := 4) (x := nI i) hc (dL_1172) rfl ?_
  refine g_iconst (v := 1) hc (dL_1174) (by decide) ?_
  refine g_iadd hc (dL_1175) ?_
  refine g_sld (j := i + 1) hc hs (dL_1176) (nI_add i 1) (by omega) hL ?_
  refine g_aload_n (i := 0) (x := 148) hc (dL_1177) rfl rfl ?_
  refine g_iload (i := 4) (x := nI i) hc (dL_1178) rfl ?_
  refine g_iconst (v := 2) hc (dL_1180) (by decide) ?_
  refine g_iadd hc (dL_1181) ?_
  refine g_sld (j := i + 2) hc hs (dL_1182) (nI_add i 2) (by omega) hL ?_
  refine g_aload_n (i := 0) (x := 148) hc (dL_1183) rfl rfl ?_
  refine g_iload (i := 4) (x := nI i) hc (dL_1184) rfl ?_
  refine g_iconst (v := 3) hc (dL_1186) (by decide) ?_
  refine g_iadd hc (dL_1187) ?_
  refine g_sld (j := i + 3) hc hs (dL_1188) (nI_add i 3) (by omega) hL ?_
  refine g_callVi ([.int (xs (i + 1)), .int (xs (i + 2)), .int (xs (i + 3))]) hc wvL_174 (dL_1189) rfl rfl (d' := 120) (by omega) (Nat.le_of_ble_eq_true rfl) (cX12_strays_ok (K := fun q => q = (r, M2)) (by omega) (xs (i + 1)) (xs (i + 2)) (xs (i + 3)) M1 ⟨_, e2, rfl⟩) (fun r1 N1 q1 => ?_)
  rw [(Prod.mk.inj q1).1, (Prod.mk.inj q1).2]
  exact g_icmp_eq hc (dL_1192) (tgt := 1565) (by decide) (fun _ => k _ hR) (fun z => absurd rfl z)
theorem law_can {E : zE} {Γ : zT} {d L i N : Nat} {xs : Nat → Int32} {M : zM} (hc : Cx E Γ RLw code 8 d) (hd : 121 ≤ d) (hs : Scr E Γ L xs) (hL : L ≤ 2560) (hi : i + 5 ≤ L) (hN : N < 1000) (h : RAll M N) (k : ∀ M2, RAll M2 (N + 1) → G E Γ 8 1565 (lvL i) [] M2) : G E Γ 8 1197 (lvL i) [] M := by
  obtain ⟨n, nd, hS, hW, hX, hO, hP, hK, hC, hH, hU⟩ := id h
  obtain ⟨r, M1, M2, e1, e2, hR⟩ := OpQ.toS h (op_can hS hW )
  refine g_aload_n (i := 1) (x := 0) hc (dL_1197) rfl rfl ?_
  refine g_callVi ([]) hc wvL_175 (dL_1198) rfl rfl (d' := 120) (by omega) (Nat.le_of_ble_eq_true rfl) (cX11_can_ok (K := fun q => q = (r, M1)) (by omega)  M ⟨_, e1, rfl⟩) (fun r0 N0 q0 => ?_)
  rw [(Prod.mk.inj q0).1, (Prod.mk.inj q0).2]
  refine g_aload_n (i := 2) (x := 36) hc (dL_1201) rfl rfl ?_
  refine g_callVi ([]) hc wvL_178 (dL_1202) rfl rfl (d' := 120) (by omega) (Nat.le_of_ble_eq_true rfl) (cX12_can_ok (K := fun q => q = (r, M2)) (by omega)  M1 ⟨_, e2, rfl⟩) (fun r1 N1 q1 => ?_)
  rw [(Prod.mk.inj q1).1, (Prod.mk.inj q1).2]
  exact g_icmp_eq hc (dL_1205) (tgt := 1565) (by decide) (fun _ => k _ hR) (fun z => absurd rfl z)
theorem law_with {E : zE} {Γ : zT} {d L i N : Nat} {xs : Nat → Int32} {M : zM} (hc : Cx E Γ RLw code 8 d) (hd : 121 ≤ d) (hs : Scr E Γ L xs) (hL : L ≤ 2560) (hi : i + 5 ≤ L) (hN : N < 1000) (h : RAll M N) (k : ∀ M2, RAll M2 (N + 1) → G E Γ 8 1565 (lvL i) [] M2) : G E Γ 8 1210 (lvL i) [] M := by
  obtain ⟨n, nd, hS, hW, hX, hO, hP, hK, hC, hH, hU⟩ := id h
  obtain ⟨r, M1, M2, e1, e2, hR⟩ := OpQ.toS h (op_with hS hW hO (xs (i + 1)))
  refine g_aload_n (i := 1) (x := 0) hc (dL_1210) rfl rfl ?_
  refine g_aload_n (i := 0) (x := 148) hc (dL_1211) rfl rfl ?_
  refine g_iload (i := 4) (x := nI i) hc (dL_1212) rfl ?_
  refine g_iconst (v := 1) hc (dL_1214) (by decide) ?_
  refine g_iadd hc (dL_1215) ?_
  refine g_sld (j := i + 1) hc hs (dL_1216) (nI_add i 1) (by omega) hL ?_
  refine g_callVi ([.int (xs (i + 1))]) hc wvL_179 (dL_1217) rfl rfl (d' := 120) (by omega) (Nat.le_of_ble_eq_true rfl) (cX11_with_ok (K := fun q => q = (r, M1)) (by omega) (xs (i + 1)) M ⟨_, e1, rfl⟩) (fun r0 N0 q0 => ?_)
  rw [(Prod.mk.inj q0).1, (Prod.mk.inj q0).2]
  refine g_aload_n (i := 2) (x := 36) hc (dL_1220) rfl rfl ?_
  refine g_aload_n (i := 0) (x := 148) hc (dL_1221) rfl rfl ?_
  refine g_iload (i := 4) (x := nI i) hc (dL_1222) rfl ?_
  refine g_iconst (v := 1) hc (dL_1224) (by decide) ?_
  refine g_iadd hc (dL_1225) ?_
  refine g_sld (j := i + 1) hc hs (dL_1226) (nI_add i 1) (by omega) hL ?_
  refine g_callVi ([.int (xs (i + 1))]) hc wvL_182 (dL_1227) rfl rfl (d' := 120) (by omega) (Nat.le_of_ble_eq_true rfl) (cX12_with_ok (K := fun q => q = (r, M2)) (by omega) (xs (i + 1)) M1 ⟨_, e2, rfl⟩) (fun r1 N1 q1 => ?_)
  rw [(Prod.mk.inj q1).1, (Prod.mk.inj q1).2]
  exact g_icmp_eq hc (dL_1230) (tgt := 1565) (by decide) (fun _ => k _ hR) (fun z => absurd rfl z)
theorem law_weakest {E : zE} {Γ : zT} {d L i N : Nat} {xs : Nat → Int32} {M : zM} (hc : Cx E Γ RLw code 8 d) (hd : 121 ≤ d) (hs : Scr E Γ L xs) (hL : L ≤ 2560) (hi : i + 5 ≤ L) (hN : N < 1000) (h : RAll M N) (k : ∀ M2, RAll M2 (N + 1) → G E Γ 8 1565 (lvL i) [] M2) : G E Γ 8 1235 (lvL i) [] M := by
  obtain ⟨n, nd, hS, hW, hX, hO, hP, hK, hC, hH, hU⟩ := id h
  obtain ⟨r, M1, M2, e1, e2, hR⟩ := OpQ.toS h (op_weakest hS hW hO )
  refine g_aload_n (i := 1) (x := 0) hc (dL_1235) rfl rfl ?_
  refine g_callVi ([]) hc wvL_183 (dL_1236) rfl rfl (d' := 120) (by omega) (Nat.le_of_ble_eq_true rfl) (cX11_weakest_ok (K := fun q => q = (r, M1)) (by omega)  M ⟨_, e1, rfl⟩) (fun r0 N0 q0 => ?_)
  rw [(Prod.mk.inj q0).1, (Prod.mk.inj q0).2]
  refine g_aload_n (i := 2) (x := 36) hc (dL_1239) rfl rfl ?_
  refine g_callVi ([]) hc wvL_186 (dL_1240) rfl rfl (d' := 120) (by omega) (Nat.le_of_ble_eq_true rfl) (cX12_weakest_ok (K := fun q => q = (r, M2)) (by omega)  M1 ⟨_, e2, rfl⟩) (fun r1 N1 q1 => ?_)
  rw [(Prod.mk.inj q1).1, (Prod.mk.inj q1).2]
  exact g_icmp_eq hc (dL_1243) (tgt := 1565) (by decide) (fun _ => k _ hR) (fun z => absurd rfl z)
theorem law_worth {E : zE} {Γ : zT} {d L i N : Nat} {xs : Nat → Int32} {M : zM} (hc : Cx E Γ RLw code 8 d) (hd : 121 ≤ d) (hs : Scr E Γ L xs) (hL : L ≤ 2560) (hi : i + 5 ≤ L) (hN : N < 1000) (h : RAll M N) (k : ∀ M2, RAll M2 (N + 1) → G E Γ 8 1565 (lvL i) [] M2) : G E Γ 8 1248 (lvL i) [] M := by
  obtain ⟨n, nd, hS, hW, hX, hO, hP, hK, hC, hH, hU⟩ := id h
  obtain ⟨r, M1, M2, e1, e2, hR⟩ := OpQ.toS h (op_worth hS hO (xs (i + 1)))
  refine g_aload_n (i := 1) (x := 0) hc (dL_1248) rfl rfl ?_
  refine g_aload_n (i := 0) (x := 148) hc (dL_1249) rfl rfl ?_
  refine g_iload (i := 4) (x := nI i) hc (dL_1250) rfl ?_
  refine g_iconst (v := 1) hc (dL_1252) (by decide) ?_
  refine g_iadd hc (dL_1253) ?_
  refine g_sld (j := i + 1) hc hs (dL_1254) (nI_add i 1) (by omega) hL ?_
  refine g_callVi ([.int (xs (i + 1))]) hc wvL_187 (dL_1255) rfl rfl (d' := 120) (by omega) (Nat.le_of_ble_eq_true rfl) (cX11_worth_ok (K := fun q => q = (r, M1)) (by omega) (xs (i + 1)) M ⟨_, e1, rfl⟩) (fun r0 N0 q0 => ?_)
  rw [(Prod.mk.inj q0).1, (Prod.mk.inj q0).2]
  refine g_aload_n (i := 2) (x := 36) hc (dL_1258) rfl rfl ?_
  refine g_aload_n (i := 0) (x := 148) hc (dL_1259) rfl rfl ?_
  refine g_iload (i := 4) (x := nI i) hc (dL_1260) rfl ?_
  refine g_iconst (v := 1) hc (dL_1262) (by decide) ?_
  refine g_iadd hc (dL_1263) ?_
  refine g_sld (j := i + 1) hc hs (dL_1264) (nI_add i 1) (by omega) hL ?_
  refine g_callVi ([.int (xs (i + 1))]) hc wvL_190 (dL_1265) rfl rfl (d' := 120) (by omega) (Nat.le_of_ble_eq_true rfl) (cX12_worth_ok (K := fun q => q = (r, M2)) (by omega) (xs (i + 1)) M1 ⟨_, e2, rfl⟩) (fun r1 N1 q1 => ?_)
  rw [(Prod.mk.inj q1).1, (Prod.mk.inj q1).2]
  exact g_icmp_eq hc (dL_1268) (tgt := 1565) (by decide) (fun _ => k _ hR) (fun z => absurd rfl z)
theorem law_hangs {E : zE} {Γ : zT} {d L i N : Nat} {xs : Nat → Int32} {M : zM} (hc : Cx E Γ RLw code 8 d) (hd : 121 ≤ d) (hs : Scr E Γ L xs) (hL : L ≤ 2560) (hi : i + 5 ≤ L) (hN : N < 1000) (h : RAll M N) (k : ∀ M2, RAll M2 (N + 1) → G E Γ 8 1565 (lvL i) [] M2) : G E Γ 8 1273 (lvL i) [] M := by
  obtain ⟨n, nd, hS, hW, hX, hO, hP, hK, hC, hH, hU⟩ := id h
  obtain ⟨r, M1, M2, e1, e2, hR⟩ := OpQ.toS h (op_hangs hS hO (xs (i + 1)))
  refine g_aload_n (i := 1) (x := 0) hc (dL_1273) rfl rfl ?_
  refine g_aload_n (i := 0) (x := 148) hc (dL_1274) rfl rfl ?_
  refine g_iload (i := 4) (x := nI i) hc (dL_1275) rfl ?_
  refine g_iconst (v := 1) hc (dL_1277) (by decide) ?_
  refine g_iadd hc (dL_1278) ?_
  refine g_sld (j := i + 1) hc hs (dL_1279) (nI_add i 1) (by omega) hL ?_
  refine g_callVi ([.int (xs (i + 1))]) hc wvL_191 (dL_1280) rfl rfl (d' := 120) (by omega) (Nat.le_of_ble_eq_true rfl) (cX11_hangs_ok (K := fun q => q = (r, M1)) (by omega) (xs (i + 1)) M ⟨_, e1, rfl⟩) (fun r0 N0 q0 => ?_)
  rw [(Prod.mk.inj q0).1, (Prod.mk.inj q0).2]
  refine g_aload_n (i := 2) (x := 36) hc (dL_1283) rfl rfl ?_
  refine g_aload_n (i := 0) (x := 148) hc (dL_1284) rfl rfl ?_
  refine g_iload (i := 4) (x := nI i) hc (dL_1285) rfl ?_
  refine g_iconst (v := 1) hc (dL_1287) (by decide) ?_
  refine g_iadd hc (dL_1288) ?_
  refine g_sld (j := i + 1) hc hs (dL_1289) (nI_add i 1) (by omega) hL ?_
  refine g_callVi ([.int (xs (i + 1))]) hc wvL_194 (dL_1290) rfl rfl (d' := 120) (by omega) (Nat.le_of_ble_eq_true rfl) (cX12_hangs_ok (K := fun q => q = (r, M2)) (by omega) (xs (i + 1)) M1 ⟨_, e2, rfl⟩) (fun r1 N1 q1 => ?_)
  rw [(Prod.mk.inj q1).1, (Prod.mk.inj q1).2]
  exact g_icmp_eq hc (dL_1293) (tgt := 1565) (by decide) (fun _ => k _ hR) (fun z => absurd rfl z)
theorem law_likely {E : zE} {Γ : zT} {d L i N : Nat} {xs : Nat → Int32} {M : zM} (hc : Cx E Γ RLw code 8 d) (hd : 121 ≤ d) (hs : Scr E Γ L xs) (hL : L ≤ 2560) (hi : i + 5 ≤ L) (hN : N < 1000) (h : RAll M N) (k : ∀ M2, RAll M2 (N + 1) → G E Γ 8 1565 (lvL i) [] M2) : G E Γ 8 1298 (lvL i) [] M := by
  obtain ⟨n, nd, hS, hW, hX, hO, hP, hK, hC, hH, hU⟩ := id h
  obtain ⟨r, M1, M2, e1, e2, hR⟩ := OpQ.toS h (op_likely hS hW hO (xs (i + 1)) (xs (i + 2)))
  refine g_aload_n (i := 1) (x := 0) hc (dL_1298) rfl rfl ?_
  refine g_aload_n (i := 0) (x := 148) hc (dL_1299) rfl rfl ?_
  refine g_iload (i := 4) (x := nI i) hc (dL_1300) rfl ?_
  refine g_iconst (v := 1) hc (dL_1302) (by decide) ?_
  refine g_iadd hc (dL_1303) ?_
  refine g_sld (j := i + 1) hc hs (dL_1304) (nI_add i 1) (by omega) hL ?_
  refine g_aload_n (i := 0) (x := 148) hc (dL_1305) rfl rfl ?_
  refine g_iload (i := 4) (x := nI i) hc (dL_1306) rfl ?_
  refine g_iconst (v := 2) hc (dL_1308) (by decide) ?_
  refine g_iadd hc (dL_1309) ?_
  refine g_sld (j := i + 2) hc hs (dL_1310) (nI_add i 2) (by omega) hL ?_
  refine g_callVi ([.int (xs (i + 1)), .int (xs (i + 2))]) hc wvL_195 (dL_1311) rfl rfl (d' := 120) (by omega) (Nat.le_of_ble_eq_true rfl) (cX11_likely_ok (K := fun q => q = (r, M1)) (by omega) (xs (i + 1)) (xs (i + 2)) M ⟨_, e1, rfl⟩) (fun r0 N0 q0 => ?_)
  rw [(Prod.mk.inj q0).1, (Prod.mk.inj q0).2]
  refine g_aload_n (i := 2) (x := 36) hc (dL_1314) rfl rfl ?_
  refine g_aload_n (i := 0) (x := 148) hc (dL_1315) rfl rfl ?_
  refine g_iload (i := 4) (x := nI i) hc (dL_1316) rfl ?_
  refine g_iconst (v := 1) hc (dL_1318) (by decide) ?_
  refine g_iadd hc (dL_1319) ?_
  refine g_sld (j := i + 1) hc hs (dL_1320) (nI_add i 1) (by omega) hL ?_
  refine g_aload_n (i := 0) (x := 148) hc (dL_1321) rfl rfl ?_
  refine g_iload (i := 4) (x := nI i) hc (dL_1322) rfl ?_
  refine g_iconst (v := 2) hc (dL_1324) (by decide) ?_
  refine g_iadd hc (dL_1325) ?_
  refine g_sld (j := i + 2) hc hs (dL_1326) (nI_add i 2) (by omega) hL ?_
  refine g_callVi ([.int (xs (i + 1)), .int (xs (i + 2))]) hc wvL_198 (dL_1327) rfl rfl (d' := 120) (by omega) (Nat.le_of_ble_eq_true rfl) (cX12_likely_ok (K := fun q => q = (r, M2)) (by omega) (xs (i + 1)) (xs (i + 2)) M1 ⟨_, e2, rfl⟩) (fun r1 N1 q1 => ?_)
  rw [(Prod.mk.inj q1).1, (Prod.mk.inj q1).2]
  exact g_icmp_eq hc (dL_1330) (tgt := 1565) (by decide) (fun _ => k _ hR) (fun z => absurd rfl z)
theorem law_hatch {E : zE} {Γ : zT} {d L i N : Nat} {xs : Nat → Int32} {M : zM} (hc : Cx E Γ RLw code 8 d) (hd : 121 ≤ d) (hs : Scr E Γ L xs) (hL : L ≤ 2560) (hi : i + 5 ≤ L) (hN : N < 1000) (h : RAll M N) (k : ∀ M2, RAll M2 (N + 1) → G E Γ 8 1565 (lvL i) [] M2) : G E Γ 8 1335 (lvL i) [] M := by
  obtain ⟨r, M1, M2, e1, e2, hR⟩ := op_hatch h 
  refine g_aload_n (i := 1) (x := 0) hc (dL_1335) rfl rfl ?_
  refine g_callVi ([]) hc wvL_199 (dL_1336) rfl rfl (d' := 120) (by omega) (Nat.le_of_ble_eq_true rfl) (cX11_hatch_ok (K := fun q => q = (r, M1)) (by omega)  M ⟨_, e1, rfl⟩) (fun r0 N0 q0 => ?_)
  rw [(Prod.mk.inj q0).1, (Prod.mk.inj q0).2]
  refine g_aload_n (i := 2) (x := 36) hc (dL_1339) rfl rfl ?_
  refine g_callVi ([]) hc wvL_202 (dL_1340) rfl rfl (d' := 120) (by omega) (Nat.le_of_ble_eq_true rfl) (cX12_hatch_ok (K := fun q => q = (r, M2)) (by omega)  M1 ⟨_, e2, rfl⟩) (fun r1 N1 q1 => ?_)
  rw [(Prod.mk.inj q1).1, (Prod.mk.inj q1).2]
  exact g_icmp_eq hc (dL_1343) (tgt := 1565) (by decide) (fun _ => k _ hR) (fun z => absurd rfl z)
theorem law_rests {E : zE} {Γ : zT} {d L i N : Nat} {xs : Nat → Int32} {M : zM} (hc : Cx E Γ RLw code 8 d) (hd : 121 ≤ d) (hs : Scr E Γ L xs) (hL : L ≤ 2560) (hi : i + 5 ≤ L) (hN : N < 1000) (h : RAll M N) (k : ∀ M2, RAll M2 (N + 1) → G E Γ 8 1565 (lvL i) [] M2) : G E Γ 8 1348 (lvL i) [] M := by
  obtain ⟨n, nd, hS, hW, hX, hO, hP, hK, hC, hH, hU⟩ := id h
  obtain ⟨r, M1, M2, e1, e2, hR⟩ := OpQ.toS h (op_rests hO (xs (i + 1)) (xs (i + 2)))
  refine g_aload_n (i := 1) (x := 0) hc (dL_1348) rfl rfl ?_
  refine g_aload_n (i := 0) (x := 148) hc (dL_1349) rfl rfl ?_
  refine g_iload (i := 4) (x := nI i) hc (dL_1350) rfl ?_
  refine g_iconst (v := 1) hc (dL_1352) (by decide) ?_
  refine g_iadd hc (dL_1353) ?_
  refine g_sld (j := i + 1) hc hs (dL_1354) (nI_add i 1) (by omega) hL ?_
  refine g_aload_n (i := 0) (x := 148) hc (dL_1355) rfl rfl ?_
  refine g_iload (i := 4) (x := nI i) hc (dL_1356) rfl ?_
  refine g_iconst (v := 2) hc (dL_1358) (by decide) ?_
  refine g_iadd hc (dL_1359) ?_
  refine g_sld (j := i + 2) hc hs (dL_1360) (nI_add i 2) (by omega) hL ?_
  refine g_callVi ([.int (xs (i + 1)), .int (xs (i + 2))]) hc wvL_203 (dL_1361) rfl rfl (d' := 120) (by omega) (Nat.le_of_ble_eq_true rfl) (cX11_rests_ok (K := fun q => q = (r, M1)) (by omega) (xs (i + 1)) (xs (i + 2)) M ⟨_, e1, rfl⟩) (fun r0 N0 q0 => ?_)
  rw [(Prod.mk.inj q0).1, (Prod.mk.inj q0).2]
  refine g_aload_n (i := 2) (x := 36) hc (dL_1364) rfl rfl ?_
  refine g_aload_n (i := 0) (x := 148) hc (dL_1365) rfl rfl ?_
  refine g_iload (i := 4) (x := nI i) hc (dL_1366) rfl ?_
  refine g_iconst (v := 1) hc (dL_1368) (by decide) ?_
  refine g_iadd hc (dL_1369) ?_
  refine g_sld (j := i + 1) hc hs (dL_1370) (nI_add i 1) (by omega) hL ?_
  refine g_aload_n (i := 0) (x := 148) hc (dL_1371) rfl rfl ?_
  refine g_iload (i := 4) (x := nI i) hc (dL_1372) rfl ?_
  refine g_iconst (v := 2) hc (dL_1374) (by decide) ?_
  refine g_iadd hc (dL_1375) ?_
  refine g_sld (j := i + 2) hc hs (dL_1376) (nI_add i 2) (by omega) hL ?_
  refine g_callVi ([.int (xs (i + 1)), .int (xs (i + 2))]) hc wvL_206 (dL_1377) rfl rfl (d' := 120) (by omega) (Nat.le_of_ble_eq_true rfl) (cX12_rests_ok (K := fun q => q = (r, M2)) (by omega) (xs (i + 1)) (xs (i + 2)) M1 ⟨_, e2, rfl⟩) (fun r1 N1 q1 => ?_)
  rw [(Prod.mk.inj q1).1, (Prod.mk.inj q1).2]
  exact g_icmp_eq hc (dL_1380) (tgt := 1565) (by decide) (fun _ => k _ hR) (fun z => absurd rfl z)
theorem law_law {E : zE} {Γ : zT} {d L i N : Nat} {xs : Nat → Int32} {M : zM} (hc : Cx E Γ RLw code 8 d) (hd : 121 ≤ d) (hs : Scr E Γ L xs) (hL : L ≤ 2560) (hi : i + 5 ≤ L) (hN : N < 1000) (h : RAll M N) (k : ∀ M2, RAll M2 (N + 1) → G E Γ 8 1565 (lvL i) [] M2) : G E Γ 8 1385 (lvL i) [] M := by
  obtain ⟨r, M1, M2, e1, e2, hR⟩ := op_law h 
  refine g_aload_n (i := 1) (x := 0) hc (dL_1385) rfl rfl ?_
  refine g_callVi ([]) hc wvL_207 (dL_1386) rfl rfl (d' := 120) (by omega) (Nat.le_of_ble_eq_true rfl) (cX11_law_ok (K := fun q => q = (r, M1)) (by omega)  M ⟨_, e1, rfl⟩) (fun r0 N0 q0 => ?_)
  rw [(Prod.mk.inj q0).1, (Prod.mk.inj q0).2]
  refine g_aload_n (i := 2) (x := 36) hc (dL_1389) rfl rfl ?_
  refine g_callVi ([]) hc wvL_210 (dL_1390) rfl rfl (d' := 120) (by omega) (Nat.le_of_ble_eq_true rfl) (cX12_law_ok (K := fun q => q = (r, M2)) (by omega)  M1 ⟨_, e2, rfl⟩) (fun r1 N1 q1 => ?_)
  rw [(Prod.mk.inj q1).1, (Prod.mk.inj q1).2]
  exact g_icmp_eq hc (dL_1393) (tgt := 1565) (by decide) (fun _ => k _ hR) (fun z => absurd rfl z)
theorem law_years {E : zE} {Γ : zT} {d L i N : Nat} {xs : Nat → Int32} {M : zM} (hc : Cx E Γ RLw code 8 d) (hd : 121 ≤ d) (hs : Scr E Γ L xs) (hL : L ≤ 2560) (hi : i + 5 ≤ L) (hN : N < 1000) (h : RAll M N) (k : ∀ M2, RAll M2 (N + 1) → G E Γ 8 1565 (lvL i) [] M2) : G E Γ 8 1398 (lvL i) [] M := by
  obtain ⟨n, nd, hS, hW, hX, hO, hP, hK, hC, hH, hU⟩ := id h
  obtain ⟨r, M1, M2, e1, e2, hR⟩ := OpQ.toS h (op_years hS hW hC hU hO (xs (i + 1)) (xs (i + 2)))
  refine g_aload_n (i := 1) (x := 0) hc (dL_1398) rfl rfl ?_
  refine g_aload_n (i := 0) (x := 148) hc (dL_1399) rfl rfl ?_
  refine g_iload (i := 4) (x := nI i) hc (dL_1400) rfl ?_
  refine g_iconst (v := 1) hc (dL_1402) (by decide) ?_
  refine g_iadd hc (dL_1403) ?_
  refine g_sld (j := i + 1) hc hs (dL_1404) (nI_add i 1) (by omega) hL ?_
  refine g_aload_n (i := 0) (x := 148) hc (dL_1405) rfl rfl ?_
  refine g_iload (i := 4) (x := nI i) hc (dL_1406) rfl ?_
  refine g_iconst (v := 2) hc (dL_1408) (by decide) ?_
  refine g_iadd hc (dL_1409) ?_
  refine g_sld (j := i + 2) hc hs (dL_1410) (nI_add i 2) (by omega) hL ?_
  refine g_callVi ([.int (xs (i + 1)), .int (xs (i + 2))]) hc wvL_211 (dL_1411) rfl rfl (d' := 120) (by omega) (Nat.le_of_ble_eq_true rfl) (cX11_years_ok (K := fun q => q = (r, M1)) (by omega) (xs (i + 1)) (xs (i + 2)) M ⟨_, e1, rfl⟩) (fun r0 N0 q0 => ?_)
  rw [(Prod.mk.inj q0).1, (Prod.mk.inj q0).2]
  refine g_aload_n (i := 2) (x := 36) hc (dL_1414) rfl rfl ?_
  refine g_aload_n (i := 0) (x := 148) hc (dL_1415) rfl rfl ?_
  refine g_iload (i := 4) (x := nI i) hc (dL_1416) rfl ?_
  refine g_iconst (v := 1) hc (dL_1418) (by decide) ?_
  refine g_iadd hc (dL_1419) ?_
  refine g_sld (j := i + 1) hc hs (dL_1420) (nI_add i 1) (by omega) hL ?_
  refine g_aload_n (i := 0) (x := 148) hc (dL_1421) rfl rfl ?_
  refine g_iload (i := 4) (x := nI i) hc (dL_1422) rfl ?_
  refine g_iconst (v := 2) hc (dL_1424) (by decide) ?_
  refine g_iadd hc (dL_1425) ?_
  refine g_sld (j := i + 2) hc hs (dL_1426) (nI_add i 2) (by omega) hL ?_
  refine g_callVi ([.int (xs (i + 1)), .int (xs (i + 2))]) hc wvL_214 (dL_1427) rfl rfl (d' := 120) (by omega) (Nat.le_of_ble_eq_true rfl) (cX12_years_ok (K := fun q => q = (r, M2)) (by omega) (xs (i + 1)) (xs (i + 2)) M1 ⟨_, e2, rfl⟩) (fun r1 N1 q1 => ?_)
  rw [(Prod.mk.inj q1).1, (Prod.mk.inj q1).2]
  exact g_icmp_eq hc (dL_1430) (tgt := 1565) (by decide) (fun _ => k _ hR) (fun z => absurd rfl z)
theorem law_keep {E : zE} {Γ : zT} {d L i N : Nat} {xs : Nat → Int32} {M : zM} (hc : Cx E Γ RLw code 8 d) (hd : 121 ≤ d) (hs : Scr E Γ L xs) (hL : L ≤ 2560) (hi : i + 5 ≤ L) (hN : N < 1000) (h : RAll M N) (k : ∀ M2, RAll M2 (N + 1) → G E Γ 8 1565 (lvL i) [] M2) : G E Γ 8 1435 (lvL i) [] M := by
  obtain ⟨r, M1, M2, e1, e2, hR⟩ := op_keep h (xs (i + 1))
  refine g_aload_n (i := 1) (x := 0) hc (dL_1435) rfl rfl ?_
  refine g_aload_n (i := 0) (x := 148) hc (dL_1436) rfl rfl ?_
  refine g_iload (i := 4) (x := nI i) hc (dL_1437) rfl ?_
  refine g_iconst (v := 1) hc (dL_1439) (by decide) ?_
  refine g_iadd hc (dL_1440) ?_
  refine g_sld (j := i + 1) hc hs (dL_1441) (nI_add i 1) (by omega) hL ?_
  refine g_callVi ([.int (xs (i + 1))]) hc wvL_215 (dL_1442) rfl rfl (d' := 120) (by omega) (Nat.le_of_ble_eq_true rfl) (cX11_keep_ok (K := fun q => q = (r, M1)) (by omega) (xs (i + 1)) M ⟨_, e1, rfl⟩) (fun r0 N0 q0 => ?_)
  rw [(Prod.mk.inj q0).1, (Prod.mk.inj q0).2]
  refine g_aload_n (i := 2) (x := 36) hc (dL_1445) rfl rfl ?_
  refine g_aload_n (i := 0) (x := 148) hc (dL_1446) rfl rfl ?_
  refine g_iload (i := 4) (x := nI i) hc (dL_1447) rfl ?_
  refine g_iconst (v := 1) hc (dL_1449) (by decide) ?_
  refine g_iadd hc (dL_1450) ?_
  refine g_sld (j := i + 1) hc hs (dL_1451) (nI_add i 1) (by omega) hL ?_
  refine g_callVi ([.int (xs (i + 1))]) hc wvL_218 (dL_1452) rfl rfl (d' := 120) (by omega) (Nat.le_of_ble_eq_true rfl) (cX12_keep_ok (K := fun q => q = (r, M2)) (by omega) (xs (i + 1)) M1 ⟨_, e2, rfl⟩) (fun r1 N1 q1 => ?_)
  rw [(Prod.mk.inj q1).1, (Prod.mk.inj q1).2]
  exact g_icmp_eq hc (dL_1455) (tgt := 1565) (by decide) (fun _ => k _ hR) (fun z => absurd rfl z)
theorem law_again {E : zE} {Γ : zT} {d L i N : Nat} {xs : Nat → Int32} {M : zM} (hc : Cx E Γ RLw code 8 d) (hd : 121 ≤ d) (hs : Scr E Γ L xs) (hL : L ≤ 2560) (hi : i + 5 ≤ L) (hN : N < 1000) (h : RAll M N) (k : ∀ M2, RAll M2 (N + 1) → G E Γ 8 1565 (lvL i) [] M2) : G E Γ 8 1460 (lvL i) [] M := by
  obtain ⟨r, M1, M2, e1, e2, hR⟩ := op_again h (xs (i + 1))
  refine g_aload_n (i := 1) (x := 0) hc (dL_1460) rfl rfl ?_
  refine g_aload_n (i := 0) (x := 148) hc (dL_1461) rfl rfl ?_
  refine g_iload (i := 4) (x := nI i) hc (dL_1462) rfl ?_
  refine g_iconst (v := 1) hc (dL_1464) (by decide) ?_
  refine g_iadd hc (dL_1465) ?_
  refine g_sld (j := i + 1) hc hs (dL_1466) (nI_add i 1) (by omega) hL ?_
  refine g_callVi ([.int (xs (i + 1))]) hc wvL_219 (dL_1467) rfl rfl (d' := 120) (by omega) (Nat.le_of_ble_eq_true rfl) (cX11_again_ok (K := fun q => q = (r, M1)) (by omega) (xs (i + 1)) M ⟨_, e1, rfl⟩) (fun r0 N0 q0 => ?_)
  rw [(Prod.mk.inj q0).1, (Prod.mk.inj q0).2]
  refine g_aload_n (i := 2) (x := 36) hc (dL_1470) rfl rfl ?_
  refine g_aload_n (i := 0) (x := 148) hc (dL_1471) rfl rfl ?_
  refine g_iload (i := 4) (x := nI i) hc (dL_1472) rfl ?_
  refine g_iconst (v := 1) hc (dL_1474) (by decide) ?_
  refine g_iadd hc (dL_1475) ?_
  refine g_sld (j := i + 1) hc hs (dL_1476) (nI_add i 1) (by omega) hL ?_
  refine g_callVi ([.int (xs (i + 1))]) hc wvL_222 (dL_1477) rfl rfl (d' := 120) (by omega) (Nat.le_of_ble_eq_true rfl) (cX12_again_ok (K := fun q => q = (r, M2)) (by omega) (xs (i + 1)) M1 ⟨_, e2, rfl⟩) (fun r1 N1 q1 => ?_)
  rw [(Prod.mk.inj q1).1, (Prod.mk.inj q1).2]
  exact g_icmp_eq hc (dL_1480) (tgt := 1565) (by decide) (fun _ => k _ hR) (fun z => absurd rfl z)
theorem law_count {E : zE} {Γ : zT} {d L i N : Nat} {xs : Nat → Int32} {M : zM} (hc : Cx E Γ RLw code 8 d) (hd : 121 ≤ d) (hs : Scr E Γ L xs) (hL : L ≤ 2560) (hi : i + 5 ≤ L) (hN : N < 1000) (h : RAll M N) (k : ∀ M2, RAll M2 (N + 1) → G E Γ 8 1565 (lvL i) [] M2) : G E Γ 8 1485 (lvL i) [] M := by
  obtain ⟨n, nd, hS, hW, hX, hO, hP, hK, hC, hH, hU⟩ := id h
  obtain ⟨r, M1, M2, e1, e2, hR⟩ := OpQ.toS h (op_count hS hW hC hH hP hX hO (xs (i + 1)))
  refine g_aload_n (i := 1) (x := 0) hc (dL_1485) rfl rfl ?_
  refine g_aload_n (i := 0) (x := 148) hc (dL_1486) rfl rfl ?_
  refine g_iload (i := 4) (x := nI i) hc (dL_1487) rfl ?_
  refine g_iconst (v := 1) hc (dL_1489) (by decide) ?_
  refine g_iadd hc (dL_1490) ?_
  refine g_sld (j := i + 1) hc hs (dL_1491) (nI_add i 1) (by omega) hL ?_
  obtain ⟨v, ev, eq⟩ := Option.map_eq_some_iff.mp e1
  obtain ⟨ea, eb⟩ := Prod.mk.inj eq
  refine g_callVi ([.int (xs (i + 1))]) hc wvL_223 (dL_1492) rfl rfl (d' := 120) (by omega) (Nat.le_of_ble_eq_true rfl) (cX11_count_ok (K := fun q => q = v) (by omega) (xs (i + 1)) M ⟨v, ev, rfl⟩) (fun r1 N1 q1 => ?_)
  rw [q1.2, ← q1.1, ea, eb]
  refine g_aload_n (i := 2) (x := 36) hc (dL_1495) rfl rfl ?_
  refine g_aload_n (i := 0) (x := 148) hc (dL_1496) rfl rfl ?_
  refine g_iload (i := 4) (x := nI i) hc (dL_1497) rfl ?_
  refine g_iconst (v := 1) hc (dL_1499) (by decide) ?_
  refine g_iadd hc (dL_1500) ?_
  refine g_sld (j := i + 1) hc hs (dL_1501) (nI_add i 1) (by omega) hL ?_
  refine g_callVi ([.int (xs (i + 1))]) hc wvL_226 (dL_1502) rfl rfl (d' := 120) (by omega) (Nat.le_of_ble_eq_true rfl) (cX12_count_ok (K := fun q => q = (r, M2)) (by omega) (xs (i + 1)) M1 ⟨_, e2, rfl⟩) (fun r1 N1 q1 => ?_)
  rw [(Prod.mk.inj q1).1, (Prod.mk.inj q1).2]
  exact g_icmp_eq hc (dL_1505) (tgt := 1565) (by decide) (fun _ => k _ hR) (fun z => absurd rfl z)
