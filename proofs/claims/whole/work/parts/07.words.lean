/-! WHAT THE PRINTED FUNCTIONS ARE MADE OF -/
def zlet {α : Type} {β : Type} (v : α) (f : α → β) : β := f v
def zp {α β γ : Type} (q : α × β) (f : α → β → γ) : γ := f q.1 q.2
def zs {α β γ : Type} (q : α ⊕ β) (f : α → γ) (g : β → γ) : γ := match q with
  | .inl a => f a
  | .inr b => g b
def zj {α β : Type} (k : α → β) (f : (α → β) → β) : β := f k
def wpO {α : Type} (o : Option α) (K : α → Prop) : Prop := ∃ r, o = some r ∧ K r
def wpI {α : Type} (x : α) (K : α → Prop) : Prop := K x
theorem wpO_0 {α : Type} {K : α → Prop} (h : wpO none K) : False := by obtain ⟨r, h, -⟩ := h; cases h
theorem wpO_s {α : Type} {x : α} {K : α → Prop} (h : wpO (some x) K) : K x := by obtain ⟨r, h, k⟩ := h; cases h; exact k
theorem wpI_s {α : Type} {x : α} {K : α → Prop} (h : wpI x K) : K x := h
theorem wpO_g {α : Type} {c : Prop} [Decidable c] {o : Option α} {K : α → Prop} (h : wpO (if c then o else none) K) : c ∧ wpO o K := by
  by_cases hc : c
  · rw [if_pos hc] at h; exact ⟨hc, h⟩
  · rw [if_neg hc] at h; exact (wpO_0 h).elim
theorem wpO_t {α : Type} {c : Prop} [Decidable c] {a b : Option α} {K : α → Prop} (hc : c) (h : wpO (if c then a else b) K) : wpO a K := by rwa [if_pos hc] at h
theorem wpO_f {α : Type} {c : Prop} [Decidable c] {a b : Option α} {K : α → Prop} (hc : ¬ c) (h : wpO (if c then a else b) K) : wpO b K := by rwa [if_neg hc] at h
theorem wpI_t {α : Type} {c : Prop} [Decidable c] {a b : α} {K : α → Prop} (hc : c) (h : wpI (if c then a else b) K) : wpI a K := by rwa [if_pos hc] at h
theorem wpI_f {α : Type} {c : Prop} [Decidable c] {a b : α} {K : α → Prop} (hc : ¬ c) (h : wpI (if c then a else b) K) : wpI b K := by rwa [if_neg hc] at h
theorem wpO_b {α β : Type} {o : Option α} {f : α → Option β} {K : β → Prop} (h : wpO (o.bind f) K) : wpO o (fun r => wpO (f r) K) := by
  obtain ⟨r, h, k⟩ := h
  cases o with
  | none => cases h
  | some x => exact ⟨x, rfl, r, h, k⟩
theorem wpO_d {α : Type} {o : Option Nat} {f : Nat → Option α} {K : α → Prop} (h : wpO (o.bind f) K) : ∃ a, o = some a ∧ wpO (f a) K := wpO_b h
theorem wpO_bJ {α β : Type} {o : Option α} {f : α → Option β} {K : β → Prop} {P : Prop} (h : wpO (o.bind f) K) (k : ∀ K1 : α → Prop, (∀ q, K1 q → wpO (f q) K) → wpO o K1 → P) : P := k _ (fun _ h => h) (wpO_b h)
theorem wpO_n {α β : Type} {x v : α} {f : α → Option β} {K : β → Prop} (hx : x = v) (h : wpO (zlet v f) K) : wpO (f x) K := by subst hx; exact h
theorem wpI_n {α β : Type} {x v : α} {f : α → β} {K : β → Prop} (hx : x = v) (h : wpI (zlet v f) K) : wpI (f x) K := by subst hx; exact h
theorem wpO_l {α β : Type} {v : α} {f : α → Option β} {K : β → Prop} (h : wpO (zlet v f) K) : ∃ x, x = v ∧ wpO (f x) K := ⟨v, rfl, h⟩
theorem wpI_l {α β : Type} {v : α} {f : α → β} {K : β → Prop} (h : wpI (zlet v f) K) : ∃ x, x = v ∧ wpI (f x) K := ⟨v, rfl, h⟩
theorem wpO_p {α β γ : Type} {a : α} {b : β} {f : α → β → Option γ} {K : γ → Prop} (h : wpO (zp (a, b) f) K) : wpO (f a b) K := h
theorem wpI_p {α β γ : Type} {a : α} {b : β} {f : α → β → γ} {K : γ → Prop} (h : wpI (zp (a, b) f) K) : wpI (f a b) K := h
theorem wpO_i {α β γ : Type} {a : α} {f : α → Option γ} {g : β → Option γ} {K : γ → Prop} (h : wpO (zs (.inl a) f g) K) : wpO (f a) K := h
theorem wpO_r {α β γ : Type} {b : β} {f : α → Option γ} {g : β → Option γ} {K : γ → Prop} (h : wpO (zs (.inr b) f g) K) : wpO (g b) K := h
theorem wpO_j {α β : Type} {k : α → Option β} {f : (α → Option β) → Option β} {K : β → Prop} {P : Prop} (h : wpO (zj k f) K) (r : ∀ J : α → Option β, (∀ a, wpO (J a) K → wpO (k a) K) → wpO (f J) K → P) : P := r k (fun _ h => h) h
theorem wpI_j {α β : Type} {k : α → β} {f : (α → β) → β} {K : β → Prop} {P : Prop} (h : wpI (zj k f) K) (r : ∀ J : α → β, (∀ a, wpI (J a) K → wpI (k a) K) → wpI (f J) K → P) : P := r k (fun _ h => h) h
theorem zle {α β : Type} {v : β} {x y : α} {f : α → β} (hx : x = y) (h : v = zlet y f) : v = f x := by subst hx; exact h
theorem zll {α β : Type} {v : β} {y : α} {f : α → β} (h : v = zlet y f) : ∃ x, x = y ∧ v = f x := ⟨y, rfl, h⟩
/-! shapes of the objects of which there are several -/
theorem zW_ge {k : Nat} (h : zSH k = .inl 10) : 60 ≤ k ∧ k < 145 ∧ k % 5 = 0 := by
  unfold zSH at h
  split at h
  · rename_i hk
    have q : ∀ k, k < 60 → (match zSL.getD k (.inl 99) with | .inl c => decide (c ≠ 10) | .inr _ => true) = true := by decide +kernel
    have := q k hk
    rw [h] at this
    exact absurd rfl (of_decide_eq_true this)
  · split at h
    · split at h
      · refine ⟨by omega, by omega, by assumption⟩
      · cases h
    · cases h
theorem zW_in {k i : Nat} (h : zSH k = .inl 10) (hi : 1 ≤ i) (hi2 : i ≤ 4) : zSH (k + i) = .inr (0, 8) := by
  obtain ⟨h1, h2, h3⟩ := zW_ge h
  unfold zSH
  rw [if_neg (by omega), if_pos (by omega), if_neg (by omega)]
theorem zSHw1 {k : Nat} (h : zSH k = .inl 10) : zSH (k + 1) = .inr (0, 8) := zW_in h (by omega) (by omega)
theorem zSHw2 {k : Nat} (h : zSH k = .inl 10) : zSH (k + 2) = .inr (0, 8) := zW_in h (by omega) (by omega)
theorem zSHw3 {k : Nat} (h : zSH k = .inl 10) : zSH (k + 3) = .inr (0, 8) := zW_in h (by omega) (by omega)
theorem zSHw4 {k : Nat} (h : zSH k = .inl 10) : zSH (k + 4) = .inr (0, 8) := zW_in h (by omega) (by omega)
theorem zRFw {k j : Nat} (h : zSH k = .inl 10) : zRF k j = k + 1 + j := by
  obtain ⟨h1, h2, h3⟩ := zW_ge h
  unfold zRF
  rw [if_neg (by omega)]
theorem zRFw1 {k : Nat} (h : zSH k = .inl 10) : zRF k 0 = k + 1 := zRFw h
theorem zRFw2 {k : Nat} (h : zSH k = .inl 10) : zRF k 1 = k + 2 := zRFw h
theorem zRFw3 {k : Nat} (h : zSH k = .inl 10) : zRF k 2 = k + 3 := zRFw h
theorem zRFw4 {k : Nat} (h : zSH k = .inl 10) : zRF k 3 = k + 4 := zRFw h
theorem zR_of {k : Nat} (h : zSH k = .inl 4) : k = 13 ∨ k = 17 := by
  unfold zSH at h
  split at h
  · rename_i hk
    have q : ∀ k, k < 60 → (match zSL.getD k (.inl 99) with | .inl c => decide (c = 4 → k = 13 ∨ k = 17) | .inr _ => true) = true := by decide +kernel
    have := q k hk
    rw [h] at this
    exact of_decide_eq_true this rfl
  · split at h
    · split at h
      · cases h
      · cases h
    · cases h
theorem zSHr1 {k : Nat} (h : zSH k = .inl 4) : zSH (k + 1) = .inr (0, 40) := by rcases zR_of h with rfl | rfl <;> rfl
theorem zSHr2 {k : Nat} (h : zSH k = .inl 4) : zSH (k + 2) = .inr (0, 40) := by rcases zR_of h with rfl | rfl <;> rfl
theorem zSHr3 {k : Nat} (h : zSH k = .inl 4) : zSH (k + 3) = .inr (0, 6) := by rcases zR_of h with rfl | rfl <;> rfl
theorem zRFr1 {k : Nat} (h : zSH k = .inl 4) : zRF k 0 = k + 1 := by rcases zR_of h with rfl | rfl <;> rfl
theorem zRFr2 {k : Nat} (h : zSH k = .inl 4) : zRF k 1 = k + 2 := by rcases zR_of h with rfl | rfl <;> rfl
theorem zRFr3 {k : Nat} (h : zSH k = .inl 4) : zRF k 2 = k + 3 := by rcases zR_of h with rfl | rfl <;> rfl
theorem zSH_w80 {i : Int32} (h : zin i 13) : zSH (80 + 5 * i.toNatClampNeg) = .inl 10 := by
  have h1 : i.toNatClampNeg < 13 := by
    have := h.2
    unfold Int32.toNatClampNeg
    omega
  unfold zSH
  rw [if_neg (by omega), if_pos (by omega), if_pos (by omega)]
theorem zSH_w70 {i : Int32} (h : zin i 2) : zSH (70 + 5 * i.toNatClampNeg) = .inl 10 := by
  have h1 : i.toNatClampNeg < 2 := by
    have := h.2
    unfold Int32.toNatClampNeg
    omega
  unfold zSH
  rw [if_neg (by omega), if_pos (by omega), if_pos (by omega)]
theorem g_breturn {E : zE} {Γ : zT} {own : String} {cc : ByteArray} {nL d pc : Nat} {lv : List (Nat × Value)} {M : zM} {v : Int32} {post : Int32 → zM → Prop} (h : Cx E Γ own cc nL d) (hr : zRi E Γ (some .byte) post) (hd : decode cc pc = .ok (.ireturn, 1)) (hv : v = 0 ∨ v = 1) (k : post v M) : G E Γ nL pc lv [.int v] M := by
  obtain ⟨p, e, R, s, m, args, below, meth, c, Q, A, ce, sl⟩ := Γ
  intro ls H locs hl hP hD hS
  obtain ⟨hr1, rfl, rfl, rfl⟩ := hr
  exact W.zret (hlocks := h.2.2.2.2.2.2.2.2.1) h.1 h.2.1 hr1 (by rcases hv with rfl | rfl <;> decide +kernel) (fun t ht hW => ⟨⟨v, M, rfl, k, by rw [ht]; exact hP, va_K.moved hW.alike h.2.2.2.2.2.1, hD⟩, hS.F ht⟩) hS.2.2 hd
theorem zlsw {x : Int32} {dflt : Int} : ∀ {ps : List (Int × Int)}, (∀ q ∈ ps, ¬ x.toInt = q.1) → Op.lookupswitch.offset ps dflt x.toInt = dflt
  | [], _ => rfl
  | (a, o) :: r, h => by
    rw [Op.lookupswitch.offset_cons]
    have h1 := h (a, o) List.mem_cons_self
    have h2 := zlsw (dflt := dflt) (ps := r) (fun q hq => h q (List.mem_cons_of_mem _ hq))
    first
      | (rw [if_neg h1]; exact h2)
      | (rw [if_neg (fun z => h1 z.symm)]; exact h2)
      | (simp only [h1, if_false]; exact h2)
section ZOFF
variable {E : zE} {d : Nat} {y : MethodName} {cc : ByteArray} {nL : Nat} {rt : Option FieldType} {as : List Value} {M : zM}
theorem zof_auxF {Qc : (Nat → Prop) → Array Value → State → Outcome → State → Prop} (hy : plainFor y = true) (hn : (lg_sl as).length ≤ nL)
    (body : ∀ Γ : zT, Cx E Γ y.cls cc nL d → (match Γ with | (p, e, R, s, m, args, below, meth, c, Q, A, ce, sl) => meth.sig.returnType = rt ∧ Q = MQ below (Qc A) args s 0 0 A ∧ ce = 0 ∧ sl = 0) → G E Γ nL 0 (lv_args 0 as) [] M) (sz : Nat) :
    Met E.1 y (.code y cc nL rt :: zTb) (zRm d) (va_Pc (as.map (zv E.2.2.2)) (zPre E sz M)) (Qc (va_A (zWE E M) sz)) 0 0 (va_A (zWE E M) sz) := by
  refine va_MetF (cc := cc) (maxL := nL) (ret := rt) hy rfl ?_
  intro p e s m args below meth c s₁ B hml hv
  obtain ⟨rfl, hsz, hP, hK, hD0, hNw, hEx⟩ := hv
  have hts := atoms_spec (ws := .code y cc nL rt :: zTb) B.pre
  have hown : s.vm.findClass y.cls = some m.cls := findClass_of_methodNamed B.named
  have hlocks := B.notSynchronized
  subst hsz
  have hD := hD0.self (sz := s.heap.size)
  have hl := lv_entry (as.map (zv E.2.2.2)) (n := nL) (by rw [zlg_len]; exact hn)
  rw [lg_entry_eq]
  rw [zlv_args] at hl
  exact body (p, e, zRm d, s, m, _, below, meth, c, _, va_A (zWE E M) s.heap.size, 0, 0) ⟨B.exec, B.bytes, hml, hown, fun w hw => hts w (List.mem_cons_of_mem _ hw), hK, fun q h => Or.inr h, ⟨Nat.le_refl _, Nat.le_refl _, Nat.le_refl _, Nat.le_refl _⟩, hlocks, hNw, hEx⟩ ⟨B.returns, rfl, rfl, rfl⟩ _ _ [] hl hP hD va_S.rf
theorem CMi.ofF {post : Int32 → zM → Prop} (hy : plainFor y = true) (hn : (lg_sl as).length ≤ nL) (body : ∀ Γ : zT, Cx E Γ y.cls cc nL d → zRi E Γ rt post → G E Γ nL 0 (lv_args 0 as) [] M) : CMi E d y cc nL rt as M post :=
  fun sz => zof_auxF (Qc := fun A => va_Qi post (zB E A) A) hy hn (fun Γ h1 h2 => body Γ h1 h2) sz
end ZOFF
/-! words and constants -/
theorem zAll (ws : List Cond) (is : List Nat) (h : ws = is.filterMap (fun i => tables_1[i]?)) (hg : ws.all goodWord = true) : ∀ w ∈ ws, w ∈ zTb := by
  intro w hw
  have hg := List.all_eq_true.mp hg w hw
  rw [h] at hw
  obtain ⟨i, -, hi⟩ := List.mem_filterMap.mp hw
  exact zTb_t i hi hg
theorem m_1 : (Cond.initialized "LostByState") ∈ zTb := zTb_t 1 (by decide +kernel) (by decide +kernel)
theorem m_2 : (Cond.initialized "LostByState$Text") ∈ zTb := zTb_t 2 (by decide +kernel) (by decide +kernel)
theorem m_3 : (Cond.initialized "LostByState$Row") ∈ zTb := zTb_t 3 (by decide +kernel) (by decide +kernel)
theorem m_4 : (Cond.initialized "LostByState$Stock") ∈ zTb := zTb_t 4 (by decide +kernel) (by decide +kernel)
theorem m_5 : (Cond.initialized "LostByState$Whereabouts") ∈ zTb := zTb_t 5 (by decide +kernel) (by decide +kernel)
theorem m_6 : (Cond.initialized "LostByState$Past") ∈ zTb := zTb_t 6 (by decide +kernel) (by decide +kernel)
theorem m_7 : (Cond.initialized "LostByState$Rule") ∈ zTb := zTb_t 7 (by decide +kernel) (by decide +kernel)
theorem m_8 : (Cond.initialized "java/lang/System") ∈ zTb := zTb_t 8 (by decide +kernel) (by decide +kernel)
theorem m_9 : (Cond.initialized "LostByState$RuleReader") ∈ zTb := zTb_t 9 (by decide +kernel) (by decide +kernel)
theorem m_10 : (Cond.initialized "LostByState$Acts") ∈ zTb := zTb_t 10 (by decide +kernel) (by decide +kernel)
theorem m_11 : (Cond.initialized "LostByState$Sharing") ∈ zTb := zTb_t 11 (by decide +kernel) (by decide +kernel)
theorem m_12 : (Cond.initialized "LostByState$Survey") ∈ zTb := zTb_t 12 (by decide +kernel) (by decide +kernel)
theorem m_13 : (Cond.initialized "LostByState$Hearsay") ∈ zTb := zTb_t 13 (by decide +kernel) (by decide +kernel)
theorem m_14 : (Cond.initialized "LostByStateModel") ∈ zTb := zTb_t 14 (by decide +kernel) (by decide +kernel)
theorem m_15 : (Cond.initialized "java/lang/Math") ∈ zTb := zTb_t 15 (by decide +kernel) (by decide +kernel)
theorem m_16 : (Cond.initialized "java/lang/String") ∈ zTb := zTb_t 16 (by decide +kernel) (by decide +kernel)
theorem m_17 : (Cond.initialized "java/lang/StringLatin1") ∈ zTb := zTb_t 17 (by decide +kernel) (by decide +kernel)
theorem m_25 : (Cond.initialized "java/lang/Integer") ∈ zTb := zTb_t 25 (by decide +kernel) (by decide +kernel)
theorem m_40 : (Cond.fieldLink "LostByState$Text" (9 : Nat) "LostByState$Text" "signs" "[I") ∈ zTb := zTb_t 40 (by decide +kernel) (by decide +kernel)
theorem m_41 : (Cond.fieldLink "LostByState$Text" (15 : Nat) "LostByState$Text" "size" "I") ∈ zTb := zTb_t 41 (by decide +kernel) (by decide +kernel)
theorem m_58 : (Cond.fieldLink "LostByState$Row" (7 : Nat) "LostByState$Row" "numbers" "[J") ∈ zTb := zTb_t 58 (by decide +kernel) (by decide +kernel)
theorem m_60 : (Cond.fieldLink "LostByState$Row" (13 : Nat) "LostByState$Row" "many" "I") ∈ zTb := zTb_t 60 (by decide +kernel) (by decide +kernel)
theorem m_74 : (Cond.fieldLink "LostByState$Stock" (9 : Nat) "LostByState$Stock" "marks" "[I") ∈ zTb := zTb_t 74 (by decide +kernel) (by decide +kernel)
theorem m_76 : (Cond.fieldLink "LostByState$Stock" (15 : Nat) "LostByState$Stock" "worths" "[I") ∈ zTb := zTb_t 76 (by decide +kernel) (by decide +kernel)
theorem m_78 : (Cond.fieldLink "LostByState$Stock" (18 : Nat) "LostByState$Stock" "needs" "[I") ∈ zTb := zTb_t 78 (by decide +kernel) (by decide +kernel)
theorem m_80 : (Cond.fieldLink "LostByState$Stock" (21 : Nat) "LostByState$Stock" "thingMany" "I") ∈ zTb := zTb_t 80 (by decide +kernel) (by decide +kernel)
theorem m_82 : (Cond.fieldLink "LostByState$Stock" (25 : Nat) "LostByState$Stock" "deedMany" "I") ∈ zTb := zTb_t 82 (by decide +kernel) (by decide +kernel)
theorem m_101 : (Cond.fieldLink "LostByState$Whereabouts" (9 : Nat) "LostByState$Whereabouts" "holder" "[I") ∈ zTb := zTb_t 101 (by decide +kernel) (by decide +kernel)
theorem m_103 : (Cond.fieldLink "LostByState$Whereabouts" (15 : Nat) "LostByState$Whereabouts" "place" "[I") ∈ zTb := zTb_t 103 (by decide +kernel) (by decide +kernel)
theorem m_105 : (Cond.fieldLink "LostByState$Whereabouts" (18 : Nat) "LostByState$Whereabouts" "days" "[I") ∈ zTb := zTb_t 105 (by decide +kernel) (by decide +kernel)
theorem m_107 : (Cond.fieldLink "LostByState$Whereabouts" (21 : Nat) "LostByState$Whereabouts" "finder" "[I") ∈ zTb := zTb_t 107 (by decide +kernel) (by decide +kernel)
theorem m_109 : (Cond.fieldLink "LostByState$Whereabouts" (24 : Nat) "LostByState$Whereabouts" "day" "I") ∈ zTb := zTb_t 109 (by decide +kernel) (by decide +kernel)
theorem m_111 : (Cond.fieldLink "LostByState$Whereabouts" (28 : Nat) "LostByState$Whereabouts" "paid" "I") ∈ zTb := zTb_t 111 (by decide +kernel) (by decide +kernel)
theorem m_135 : (Cond.fieldLink "LostByState$Past" (11 : Nat) "LostByState$Past" "slots" "[LLostByState$Whereabouts;") ∈ zTb := zTb_t 135 (by decide +kernel) (by decide +kernel)
theorem m_136 : (Cond.fieldLink "LostByState$Past" (15 : Nat) "LostByState$Past" "next" "I") ∈ zTb := zTb_t 136 (by decide +kernel) (by decide +kernel)
theorem m_137 : (Cond.fieldLink "LostByState$Past" (19 : Nat) "LostByState$Past" "many" "I") ∈ zTb := zTb_t 137 (by decide +kernel) (by decide +kernel)
theorem m_153 : (Cond.instanceMethod ({ cls := "LostByState$Rule", name := "becomePlain", desc := "()V" } : MethodName)) ∈ zTb := zTb_t 153 (by decide +kernel) (by decide +kernel)
theorem m_154 : (Cond.selects "LostByState$Rule" ({ cls := "LostByState$Rule", name := "becomePlain", desc := "()V" } : MethodName) ({ cls := "LostByState$Rule", name := "becomePlain", desc := "()V" } : MethodName)) ∈ zTb := zTb_t 154 (by decide +kernel) (by decide +kernel)
theorem m_155 : (Cond.code ({ cls := "LostByState$Rule", name := "becomePlain", desc := "()V" } : MethodName) prog_6_method_2_code (1 : Nat) (Option.none : Option FieldType)) ∈ zTb := zTb_t 155 (by decide +kernel) (by decide +kernel)
theorem m_156 : (Cond.fieldLink "LostByState$Rule" (28 : Nat) "LostByState$Rule" "PLAIN" "[I") ∈ zTb := zTb_t 156 (by decide +kernel) (by decide +kernel)
theorem m_158 : (Cond.methodLink "LostByState$Rule" (31 : Nat) ({ cls := "java/lang/System", name := "arraycopy", desc := "(Ljava/lang/Object;ILjava/lang/Object;II)V" } : MethodName)) ∈ zTb := zTb_t 158 (by decide +kernel) (by decide +kernel)
theorem m_159 : (Cond.static ({ cls := "java/lang/System", name := "arraycopy", desc := "(Ljava/lang/Object;ILjava/lang/Object;II)V" } : MethodName)) ∈ zTb := zTb_t 159 (by decide +kernel) (by decide +kernel)
theorem m_160 : (Cond.native ({ cls := "java/lang/System", name := "arraycopy", desc := "(Ljava/lang/Object;ILjava/lang/Object;II)V" } : MethodName)) ∈ zTb := zTb_t 160 (by decide +kernel) (by decide +kernel)
theorem m_161 : (Cond.fieldLink "LostByState$Rule" (9 : Nat) "LostByState$Rule" "parts" "[I") ∈ zTb := zTb_t 161 (by decide +kernel) (by decide +kernel)
theorem m_162 : (Cond.fieldLink "LostByState$Rule" (15 : Nat) "LostByState$Rule" "values" "[I") ∈ zTb := zTb_t 162 (by decide +kernel) (by decide +kernel)
theorem m_163 : (Cond.fieldLink "LostByState$Rule" (18 : Nat) "LostByState$Rule" "named" "[I") ∈ zTb := zTb_t 163 (by decide +kernel) (by decide +kernel)
theorem m_164 : (Cond.fieldLink "LostByState$Rule" (21 : Nat) "LostByState$Rule" "many" "I") ∈ zTb := zTb_t 164 (by decide +kernel) (by decide +kernel)
theorem m_182 : (Cond.fieldLink "LostByState$RuleReader" (18 : Nat) "LostByState$RuleReader" "text" "LLostByState$Text;") ∈ zTb := zTb_t 182 (by decide +kernel) (by decide +kernel)
theorem m_183 : (Cond.fieldLink "LostByState$RuleReader" (22 : Nat) "LostByState$RuleReader" "into" "LLostByState$Rule;") ∈ zTb := zTb_t 183 (by decide +kernel) (by decide +kernel)
theorem m_184 : (Cond.fieldLink "LostByState$RuleReader" (9 : Nat) "LostByState$RuleReader" "stop" "I") ∈ zTb := zTb_t 184 (by decide +kernel) (by decide +kernel)
theorem m_185 : (Cond.fieldLink "LostByState$RuleReader" (15 : Nat) "LostByState$RuleReader" "p" "I") ∈ zTb := zTb_t 185 (by decide +kernel) (by decide +kernel)
theorem m_201 : (Cond.fieldLink "LostByState$Acts" (11 : Nat) "LostByState$Acts" "kinds" "[I") ∈ zTb := zTb_t 201 (by decide +kernel) (by decide +kernel)
theorem m_203 : (Cond.fieldLink "LostByState$Acts" (15 : Nat) "LostByState$Acts" "first" "[I") ∈ zTb := zTb_t 203 (by decide +kernel) (by decide +kernel)
theorem m_205 : (Cond.fieldLink "LostByState$Acts" (18 : Nat) "LostByState$Acts" "second" "[I") ∈ zTb := zTb_t 205 (by decide +kernel) (by decide +kernel)
theorem m_207 : (Cond.fieldLink "LostByState$Acts" (21 : Nat) "LostByState$Acts" "many" "I") ∈ zTb := zTb_t 207 (by decide +kernel) (by decide +kernel)
theorem m_226 : (Cond.fieldLink "LostByState$Sharing" (15 : Nat) "LostByState$Sharing" "gain" "[I") ∈ zTb := zTb_t 226 (by decide +kernel) (by decide +kernel)
theorem m_228 : (Cond.fieldLink "LostByState$Sharing" (18 : Nat) "LostByState$Sharing" "best" "[I") ∈ zTb := zTb_t 228 (by decide +kernel) (by decide +kernel)
theorem m_243 : (Cond.fieldLink "LostByState$Survey" (9 : Nat) "LostByState$Survey" "got" "[I") ∈ zTb := zTb_t 243 (by decide +kernel) (by decide +kernel)
theorem m_245 : (Cond.fieldLink "LostByState$Survey" (15 : Nat) "LostByState$Survey" "most" "[I") ∈ zTb := zTb_t 245 (by decide +kernel) (by decide +kernel)
theorem m_246 : (Cond.fieldLink "LostByState$Survey" (18 : Nat) "LostByState$Survey" "matches" "[I") ∈ zTb := zTb_t 246 (by decide +kernel) (by decide +kernel)
theorem m_260 : (Cond.fieldLink "LostByState$Hearsay" (7 : Nat) "LostByState$Hearsay" "has" "I") ∈ zTb := zTb_t 260 (by decide +kernel) (by decide +kernel)
theorem m_261 : (Cond.fieldLink "LostByState$Hearsay" (13 : Nat) "LostByState$Hearsay" "hasNot" "I") ∈ zTb := zTb_t 261 (by decide +kernel) (by decide +kernel)
theorem m_262 : (Cond.fieldLink "LostByState$Hearsay" (16 : Nat) "LostByState$Hearsay" "many" "I") ∈ zTb := zTb_t 262 (by decide +kernel) (by decide +kernel)
theorem m_271 : (Cond.fieldLink "LostByState" (10 : Nat) "LostByState" "text" "LLostByState$Text;") ∈ zTb := zTb_t 271 (by decide +kernel) (by decide +kernel)
theorem m_272 : (Cond.fieldLink "LostByState" (19 : Nat) "LostByState" "told" "LLostByState$Row;") ∈ zTb := zTb_t 272 (by decide +kernel) (by decide +kernel)
theorem m_273 : (Cond.fieldLink "LostByState" (26 : Nat) "LostByState" "stock" "LLostByState$Stock;") ∈ zTb := zTb_t 273 (by decide +kernel) (by decide +kernel)
theorem m_274 : (Cond.fieldLink "LostByState" (33 : Nat) "LostByState" "now" "LLostByState$Whereabouts;") ∈ zTb := zTb_t 274 (by decide +kernel) (by decide +kernel)
theorem m_275 : (Cond.fieldLink "LostByState" (37 : Nat) "LostByState" "trial" "LLostByState$Whereabouts;") ∈ zTb := zTb_t 275 (by decide +kernel) (by decide +kernel)
theorem m_276 : (Cond.fieldLink "LostByState" (43 : Nat) "LostByState" "past" "LLostByState$Past;") ∈ zTb := zTb_t 276 (by decide +kernel) (by decide +kernel)
theorem m_277 : (Cond.fieldLink "LostByState" (47 : Nat) "LostByState" "kept" "[LLostByState$Whereabouts;") ∈ zTb := zTb_t 277 (by decide +kernel) (by decide +kernel)
theorem m_278 : (Cond.fieldLink "LostByState" (51 : Nat) "LostByState" "isKept" "[Z") ∈ zTb := zTb_t 278 (by decide +kernel) (by decide +kernel)
theorem m_279 : (Cond.fieldLink "LostByState" (58 : Nat) "LostByState" "inForce" "LLostByState$Rule;") ∈ zTb := zTb_t 279 (by decide +kernel) (by decide +kernel)
theorem m_280 : (Cond.fieldLink "LostByState" (62 : Nat) "LostByState" "other" "LLostByState$Rule;") ∈ zTb := zTb_t 280 (by decide +kernel) (by decide +kernel)
theorem m_281 : (Cond.fieldLink "LostByState" (70 : Nat) "LostByState" "ruleReader" "LLostByState$RuleReader;") ∈ zTb := zTb_t 281 (by decide +kernel) (by decide +kernel)
theorem m_282 : (Cond.fieldLink "LostByState" (77 : Nat) "LostByState" "acts" "LLostByState$Acts;") ∈ zTb := zTb_t 282 (by decide +kernel) (by decide +kernel)
theorem m_283 : (Cond.fieldLink "LostByState" (84 : Nat) "LostByState" "sharing" "LLostByState$Sharing;") ∈ zTb := zTb_t 283 (by decide +kernel) (by decide +kernel)
theorem m_284 : (Cond.fieldLink "LostByState" (91 : Nat) "LostByState" "survey" "LLostByState$Survey;") ∈ zTb := zTb_t 284 (by decide +kernel) (by decide +kernel)
theorem m_285 : (Cond.fieldLink "LostByState" (98 : Nat) "LostByState" "hearsay" "LLostByState$Hearsay;") ∈ zTb := zTb_t 285 (by decide +kernel) (by decide +kernel)
theorem m_286 : (Cond.fieldLink "LostByState" (102 : Nat) "LostByState" "digits" "[I") ∈ zTb := zTb_t 286 (by decide +kernel) (by decide +kernel)
theorem m_287 : (Cond.fieldLink "LostByState" (106 : Nat) "LostByState" "drawn" "I") ∈ zTb := zTb_t 287 (by decide +kernel) (by decide +kernel)
theorem m_288 : (Cond.fieldLink "LostByState" (110 : Nat) "LostByState" "term" "I") ∈ zTb := zTb_t 288 (by decide +kernel) (by decide +kernel)
theorem m_289 : (Cond.fieldLink "LostByState" (113 : Nat) "LostByState" "need" "I") ∈ zTb := zTb_t 289 (by decide +kernel) (by decide +kernel)
theorem m_333 : (Cond.methodLink "LostByState" (116 : Nat) ({ cls := "LostByState$Text", name := "hasRoomForFour", desc := "()Z" } : MethodName)) ∈ zTb := zTb_t 333 (by decide +kernel) (by decide +kernel)
theorem m_334 : (Cond.instanceMethod ({ cls := "LostByState$Text", name := "hasRoomForFour", desc := "()Z" } : MethodName)) ∈ zTb := zTb_t 334 (by decide +kernel) (by decide +kernel)
theorem m_335 : (Cond.selects "LostByState$Text" ({ cls := "LostByState$Text", name := "hasRoomForFour", desc := "()Z" } : MethodName) ({ cls := "LostByState$Text", name := "hasRoomForFour", desc := "()Z" } : MethodName)) ∈ zTb := zTb_t 335 (by decide +kernel) (by decide +kernel)
theorem m_336 : (Cond.code ({ cls := "LostByState$Text", name := "hasRoomForFour", desc := "()Z" } : MethodName) prog_11_method_2_code (1 : Nat) (Option.some FieldType.boolean)) ∈ zTb := zTb_t 336 (by decide +kernel) (by decide +kernel)
theorem m_337 : (Cond.methodLink "LostByState" (120 : Nat) ({ cls := "LostByState$Text", name := "append", desc := "(I)I" } : MethodName)) ∈ zTb := zTb_t 337 (by decide +kernel) (by decide +kernel)
theorem m_338 : (Cond.instanceMethod ({ cls := "LostByState$Text", name := "append", desc := "(I)I" } : MethodName)) ∈ zTb := zTb_t 338 (by decide +kernel) (by decide +kernel)
theorem m_339 : (Cond.selects "LostByState$Text" ({ cls := "LostByState$Text", name := "append", desc := "(I)I" } : MethodName) ({ cls := "LostByState$Text", name := "append", desc := "(I)I" } : MethodName)) ∈ zTb := zTb_t 339 (by decide +kernel) (by decide +kernel)
theorem m_340 : (Cond.code ({ cls := "LostByState$Text", name := "append", desc := "(I)I" } : MethodName) prog_11_method_3_code (3 : Nat) (Option.some FieldType.int)) ∈ zTb := zTb_t 340 (by decide +kernel) (by decide +kernel)
theorem m_345 : (Cond.methodLink "LostByState" (124 : Nat) ({ cls := "LostByState$Text", name := "cutTo", desc := "(I)Z" } : MethodName)) ∈ zTb := zTb_t 345 (by decide +kernel) (by decide +kernel)
theorem m_346 : (Cond.instanceMethod ({ cls := "LostByState$Text", name := "cutTo", desc := "(I)Z" } : MethodName)) ∈ zTb := zTb_t 346 (by decide +kernel) (by decide +kernel)
theorem m_347 : (Cond.selects "LostByState$Text" ({ cls := "LostByState$Text", name := "cutTo", desc := "(I)Z" } : MethodName) ({ cls := "LostByState$Text", name := "cutTo", desc := "(I)Z" } : MethodName)) ∈ zTb := zTb_t 347 (by decide +kernel) (by decide +kernel)
theorem m_348 : (Cond.code ({ cls := "LostByState$Text", name := "cutTo", desc := "(I)Z" } : MethodName) prog_11_method_4_code (2 : Nat) (Option.some FieldType.boolean)) ∈ zTb := zTb_t 348 (by decide +kernel) (by decide +kernel)
theorem m_353 : (Cond.methodLink "LostByState" (128 : Nat) ({ cls := "LostByState$Stock", name := "readThings", desc := "(LLostByState$Text;)I" } : MethodName)) ∈ zTb := zTb_t 353 (by decide +kernel) (by decide +kernel)
theorem m_354 : (Cond.instanceMethod ({ cls := "LostByState$Stock", name := "readThings", desc := "(LLostByState$Text;)I" } : MethodName)) ∈ zTb := zTb_t 354 (by decide +kernel) (by decide +kernel)
theorem m_355 : (Cond.selects "LostByState$Stock" ({ cls := "LostByState$Stock", name := "readThings", desc := "(LLostByState$Text;)I" } : MethodName) ({ cls := "LostByState$Stock", name := "readThings", desc := "(LLostByState$Text;)I" } : MethodName)) ∈ zTb := zTb_t 355 (by decide +kernel) (by decide +kernel)
theorem m_356 : (Cond.code ({ cls := "LostByState$Stock", name := "readThings", desc := "(LLostByState$Text;)I" } : MethodName) prog_9_method_2_code (8 : Nat) (Option.some FieldType.int)) ∈ zTb := zTb_t 356 (by decide +kernel) (by decide +kernel)
theorem m_357 : (Cond.methodLink "LostByState$Stock" (33 : Nat) ({ cls := "java/lang/Math", name := "min", desc := "(II)I" } : MethodName)) ∈ zTb := zTb_t 357 (by decide +kernel) (by decide +kernel)
theorem m_358 : (Cond.static ({ cls := "java/lang/Math", name := "min", desc := "(II)I" } : MethodName)) ∈ zTb := zTb_t 358 (by decide +kernel) (by decide +kernel)
theorem m_359 : (Cond.code ({ cls := "java/lang/Math", name := "min", desc := "(II)I" } : MethodName) prog_21_method_69_code (2 : Nat) (Option.some FieldType.int)) ∈ zTb := zTb_t 359 (by decide +kernel) (by decide +kernel)
theorem m_360 : (Cond.methodLink "LostByState$Stock" (39 : Nat) ({ cls := "LostByState$Text", name := "signAt", desc := "(I)I" } : MethodName)) ∈ zTb := zTb_t 360 (by decide +kernel) (by decide +kernel)
theorem m_361 : (Cond.instanceMethod ({ cls := "LostByState$Text", name := "signAt", desc := "(I)I" } : MethodName)) ∈ zTb := zTb_t 361 (by decide +kernel) (by decide +kernel)
theorem m_362 : (Cond.selects "LostByState$Text" ({ cls := "LostByState$Text", name := "signAt", desc := "(I)I" } : MethodName) ({ cls := "LostByState$Text", name := "signAt", desc := "(I)I" } : MethodName)) ∈ zTb := zTb_t 362 (by decide +kernel) (by decide +kernel)
theorem m_363 : (Cond.code ({ cls := "LostByState$Text", name := "signAt", desc := "(I)I" } : MethodName) prog_11_method_7_code (2 : Nat) (Option.some FieldType.int)) ∈ zTb := zTb_t 363 (by decide +kernel) (by decide +kernel)
theorem m_364 : (Cond.methodLink "LostByState$Stock" (43 : Nat) ({ cls := "LostByState$Text", name := "isEmpty", desc := "()Z" } : MethodName)) ∈ zTb := zTb_t 364 (by decide +kernel) (by decide +kernel)
theorem m_365 : (Cond.instanceMethod ({ cls := "LostByState$Text", name := "isEmpty", desc := "()Z" } : MethodName)) ∈ zTb := zTb_t 365 (by decide +kernel) (by decide +kernel)
theorem m_366 : (Cond.selects "LostByState$Text" ({ cls := "LostByState$Text", name := "isEmpty", desc := "()Z" } : MethodName) ({ cls := "LostByState$Text", name := "isEmpty", desc := "()Z" } : MethodName)) ∈ zTb := zTb_t 366 (by decide +kernel) (by decide +kernel)
theorem m_367 : (Cond.code ({ cls := "LostByState$Text", name := "isEmpty", desc := "()Z" } : MethodName) prog_11_method_5_code (1 : Nat) (Option.some FieldType.boolean)) ∈ zTb := zTb_t 367 (by decide +kernel) (by decide +kernel)
theorem m_368 : (Cond.methodLink "LostByState" (132 : Nat) ({ cls := "LostByState$Text", name := "clear", desc := "()V" } : MethodName)) ∈ zTb := zTb_t 368 (by decide +kernel) (by decide +kernel)
theorem m_369 : (Cond.instanceMethod ({ cls := "LostByState$Text", name := "clear", desc := "()V" } : MethodName)) ∈ zTb := zTb_t 369 (by decide +kernel) (by decide +kernel)
theorem m_370 : (Cond.selects "LostByState$Text" ({ cls := "LostByState$Text", name := "clear", desc := "()V" } : MethodName) ({ cls := "LostByState$Text", name := "clear", desc := "()V" } : MethodName)) ∈ zTb := zTb_t 370 (by decide +kernel) (by decide +kernel)
theorem m_371 : (Cond.code ({ cls := "LostByState$Text", name := "clear", desc := "()V" } : MethodName) prog_11_method_6_code (1 : Nat) (Option.none : Option FieldType)) ∈ zTb := zTb_t 371 (by decide +kernel) (by decide +kernel)
theorem m_372 : (Cond.methodLink "LostByState" (138 : Nat) ({ cls := "LostByState$Whereabouts", name := "arrive", desc := "(II)V" } : MethodName)) ∈ zTb := zTb_t 372 (by decide +kernel) (by decide +kernel)
theorem m_373 : (Cond.instanceMethod ({ cls := "LostByState$Whereabouts", name := "arrive", desc := "(II)V" } : MethodName)) ∈ zTb := zTb_t 373 (by decide +kernel) (by decide +kernel)
theorem m_374 : (Cond.selects "LostByState$Whereabouts" ({ cls := "LostByState$Whereabouts", name := "arrive", desc := "(II)V" } : MethodName) ({ cls := "LostByState$Whereabouts", name := "arrive", desc := "(II)V" } : MethodName)) ∈ zTb := zTb_t 374 (by decide +kernel) (by decide +kernel)
theorem m_375 : (Cond.code ({ cls := "LostByState$Whereabouts", name := "arrive", desc := "(II)V" } : MethodName) prog_12_method_3_code (4 : Nat) (Option.none : Option FieldType)) ∈ zTb := zTb_t 375 (by decide +kernel) (by decide +kernel)
theorem m_376 : (Cond.methodLink "LostByState$Whereabouts" (37 : Nat) ({ cls := "LostByState$Whereabouts", name := "putWith", desc := "(II)V" } : MethodName)) ∈ zTb := zTb_t 376 (by decide +kernel) (by decide +kernel)
theorem m_377 : (Cond.instanceMethod ({ cls := "LostByState$Whereabouts", name := "putWith", desc := "(II)V" } : MethodName)) ∈ zTb := zTb_t 377 (by decide +kernel) (by decide +kernel)
theorem m_378 : (Cond.selects "LostByState$Whereabouts" ({ cls := "LostByState$Whereabouts", name := "putWith", desc := "(II)V" } : MethodName) ({ cls := "LostByState$Whereabouts", name := "putWith", desc := "(II)V" } : MethodName)) ∈ zTb := zTb_t 378 (by decide +kernel) (by decide +kernel)
theorem m_379 : (Cond.code ({ cls := "LostByState$Whereabouts", name := "putWith", desc := "(II)V" } : MethodName) prog_12_method_4_code (3 : Nat) (Option.none : Option FieldType)) ∈ zTb := zTb_t 379 (by decide +kernel) (by decide +kernel)
theorem m_380 : (Cond.methodLink "LostByState" (142 : Nat) ({ cls := "LostByState", name := "forgetThePast", desc := "()V" } : MethodName)) ∈ zTb := zTb_t 380 (by decide +kernel) (by decide +kernel)
theorem m_382 : (Cond.instanceMethod ({ cls := "LostByState", name := "forgetThePast", desc := "()V" } : MethodName)) ∈ zTb := zTb_t 382 (by decide +kernel) (by decide +kernel)
theorem m_383 : (Cond.code ({ cls := "LostByState", name := "forgetThePast", desc := "()V" } : MethodName) prog_1_method_63_code (2 : Nat) (Option.none : Option FieldType)) ∈ zTb := zTb_t 383 (by decide +kernel) (by decide +kernel)
theorem m_388 : (Cond.methodLink "LostByState" (145 : Nat) ({ cls := "LostByState$Text", name := "isEmpty", desc := "()Z" } : MethodName)) ∈ zTb := zTb_t 388 (by decide +kernel) (by decide +kernel)
theorem m_389 : (Cond.methodLink "LostByState" (154 : Nat) ({ cls := "LostByState$Text", name := "readSets", desc := "(III[II)I" } : MethodName)) ∈ zTb := zTb_t 389 (by decide +kernel) (by decide +kernel)
theorem m_390 : (Cond.instanceMethod ({ cls := "LostByState$Text", name := "readSets", desc := "(III[II)I" } : MethodName)) ∈ zTb := zTb_t 390 (by decide +kernel) (by decide +kernel)
theorem m_391 : (Cond.selects "LostByState$Text" ({ cls := "LostByState$Text", name := "readSets", desc := "(III[II)I" } : MethodName) ({ cls := "LostByState$Text", name := "readSets", desc := "(III[II)I" } : MethodName)) ∈ zTb := zTb_t 391 (by decide +kernel) (by decide +kernel)
theorem m_392 : (Cond.code ({ cls := "LostByState$Text", name := "readSets", desc := "(III[II)I" } : MethodName) prog_11_method_8_code (12 : Nat) (Option.some FieldType.int)) ∈ zTb := zTb_t 392 (by decide +kernel) (by decide +kernel)
theorem m_393 : (Cond.methodLink "LostByState$Text" (19 : Nat) ({ cls := "java/lang/Math", name := "min", desc := "(II)I" } : MethodName)) ∈ zTb := zTb_t 393 (by decide +kernel) (by decide +kernel)
theorem m_398 : (Cond.methodLink "LostByState" (158 : Nat) ({ cls := "LostByState", name := "readOtherRule", desc := "()I" } : MethodName)) ∈ zTb := zTb_t 398 (by decide +kernel) (by decide +kernel)
theorem m_400 : (Cond.instanceMethod ({ cls := "LostByState", name := "readOtherRule", desc := "()I" } : MethodName)) ∈ zTb := zTb_t 400 (by decide +kernel) (by decide +kernel)
theorem m_401 : (Cond.code ({ cls := "LostByState", name := "readOtherRule", desc := "()I" } : MethodName) prog_1_method_64_code (2 : Nat) (Option.some FieldType.int)) ∈ zTb := zTb_t 401 (by decide +kernel) (by decide +kernel)
theorem m_402 : (Cond.methodLink "LostByState" (413 : Nat) ({ cls := "LostByState$Rule", name := "becomePlain", desc := "()V" } : MethodName)) ∈ zTb := zTb_t 402 (by decide +kernel) (by decide +kernel)
theorem m_403 : (Cond.methodLink "LostByState" (416 : Nat) ({ cls := "LostByState$RuleReader", name := "readAll", desc := "()I" } : MethodName)) ∈ zTb := zTb_t 403 (by decide +kernel) (by decide +kernel)
theorem m_404 : (Cond.instanceMethod ({ cls := "LostByState$RuleReader", name := "readAll", desc := "()I" } : MethodName)) ∈ zTb := zTb_t 404 (by decide +kernel) (by decide +kernel)
theorem m_405 : (Cond.selects "LostByState$RuleReader" ({ cls := "LostByState$RuleReader", name := "readAll", desc := "()I" } : MethodName) ({ cls := "LostByState$RuleReader", name := "readAll", desc := "()I" } : MethodName)) ∈ zTb := zTb_t 405 (by decide +kernel) (by decide +kernel)
theorem m_406 : (Cond.code ({ cls := "LostByState$RuleReader", name := "readAll", desc := "()I" } : MethodName) prog_7_method_2_code (1 : Nat) (Option.some FieldType.int)) ∈ zTb := zTb_t 406 (by decide +kernel) (by decide +kernel)
theorem m_407 : (Cond.methodLink "LostByState$RuleReader" (36 : Nat) ({ cls := "java/lang/Math", name := "min", desc := "(II)I" } : MethodName)) ∈ zTb := zTb_t 407 (by decide +kernel) (by decide +kernel)
theorem m_408 : (Cond.methodLink "LostByState$RuleReader" (42 : Nat) ({ cls := "LostByState$RuleReader", name := "readComparison", desc := "(I)Z" } : MethodName)) ∈ zTb := zTb_t 408 (by decide +kernel) (by decide +kernel)
theorem m_410 : (Cond.instanceMethod ({ cls := "LostByState$RuleReader", name := "readComparison", desc := "(I)Z" } : MethodName)) ∈ zTb := zTb_t 410 (by decide +kernel) (by decide +kernel)
theorem m_411 : (Cond.code ({ cls := "LostByState$RuleReader", name := "readComparison", desc := "(I)Z" } : MethodName) prog_7_method_4_code (3 : Nat) (Option.some FieldType.boolean)) ∈ zTb := zTb_t 411 (by decide +kernel) (by decide +kernel)
theorem m_412 : (Cond.methodLink "LostByState$RuleReader" (50 : Nat) ({ cls := "LostByState$RuleReader", name := "readSum", desc := "(I)Z" } : MethodName)) ∈ zTb := zTb_t 412 (by decide +kernel) (by decide +kernel)
theorem m_414 : (Cond.instanceMethod ({ cls := "LostByState$RuleReader", name := "readSum", desc := "(I)Z" } : MethodName)) ∈ zTb := zTb_t 414 (by decide +kernel) (by decide +kernel)
theorem m_415 : (Cond.code ({ cls := "LostByState$RuleReader", name := "readSum", desc := "(I)Z" } : MethodName) prog_7_method_5_code (5 : Nat) (Option.some FieldType.boolean)) ∈ zTb := zTb_t 415 (by decide +kernel) (by decide +kernel)
theorem m_416 : (Cond.methodLink "LostByState$RuleReader" (61 : Nat) ({ cls := "LostByState$RuleReader", name := "readProduct", desc := "(I)Z" } : MethodName)) ∈ zTb := zTb_t 416 (by decide +kernel) (by decide +kernel)
theorem m_418 : (Cond.instanceMethod ({ cls := "LostByState$RuleReader", name := "readProduct", desc := "(I)Z" } : MethodName)) ∈ zTb := zTb_t 418 (by decide +kernel) (by decide +kernel)
theorem m_419 : (Cond.code ({ cls := "LostByState$RuleReader", name := "readProduct", desc := "(I)Z" } : MethodName) prog_7_method_6_code (5 : Nat) (Option.some FieldType.boolean)) ∈ zTb := zTb_t 419 (by decide +kernel) (by decide +kernel)
theorem m_420 : (Cond.methodLink "LostByState$RuleReader" (64 : Nat) ({ cls := "LostByState$RuleReader", name := "readSigned", desc := "(I)Z" } : MethodName)) ∈ zTb := zTb_t 420 (by decide +kernel) (by decide +kernel)
theorem m_422 : (Cond.instanceMethod ({ cls := "LostByState$RuleReader", name := "readSigned", desc := "(I)Z" } : MethodName)) ∈ zTb := zTb_t 422 (by decide +kernel) (by decide +kernel)
theorem m_423 : (Cond.code ({ cls := "LostByState$RuleReader", name := "readSigned", desc := "(I)Z" } : MethodName) prog_7_method_7_code (4 : Nat) (Option.some FieldType.boolean)) ∈ zTb := zTb_t 423 (by decide +kernel) (by decide +kernel)
theorem m_424 : (Cond.methodLink "LostByState$RuleReader" (53 : Nat) ({ cls := "LostByState$RuleReader", name := "seen", desc := "()I" } : MethodName)) ∈ zTb := zTb_t 424 (by decide +kernel) (by decide +kernel)
theorem m_426 : (Cond.instanceMethod ({ cls := "LostByState$RuleReader", name := "seen", desc := "()I" } : MethodName)) ∈ zTb := zTb_t 426 (by decide +kernel) (by decide +kernel)
theorem m_427 : (Cond.code ({ cls := "LostByState$RuleReader", name := "seen", desc := "()I" } : MethodName) prog_7_method_3_code (1 : Nat) (Option.some FieldType.int)) ∈ zTb := zTb_t 427 (by decide +kernel) (by decide +kernel)
theorem m_428 : (Cond.methodLink "LostByState$RuleReader" (46 : Nat) ({ cls := "LostByState$Text", name := "signAt", desc := "(I)I" } : MethodName)) ∈ zTb := zTb_t 428 (by decide +kernel) (by decide +kernel)
theorem m_429 : (Cond.methodLink "LostByState$RuleReader" (67 : Nat) ({ cls := "LostByState$RuleReader", name := "readInBrackets", desc := "(I)Z" } : MethodName)) ∈ zTb := zTb_t 429 (by decide +kernel) (by decide +kernel)
theorem m_431 : (Cond.instanceMethod ({ cls := "LostByState$RuleReader", name := "readInBrackets", desc := "(I)Z" } : MethodName)) ∈ zTb := zTb_t 431 (by decide +kernel) (by decide +kernel)
theorem m_432 : (Cond.code ({ cls := "LostByState$RuleReader", name := "readInBrackets", desc := "(I)Z" } : MethodName) prog_7_method_8_code (2 : Nat) (Option.some FieldType.boolean)) ∈ zTb := zTb_t 432 (by decide +kernel) (by decide +kernel)
theorem m_433 : (Cond.methodLink "LostByState$RuleReader" (70 : Nat) ({ cls := "LostByState$RuleReader", name := "readNumber", desc := "()Z" } : MethodName)) ∈ zTb := zTb_t 433 (by decide +kernel) (by decide +kernel)
theorem m_435 : (Cond.instanceMethod ({ cls := "LostByState$RuleReader", name := "readNumber", desc := "()Z" } : MethodName)) ∈ zTb := zTb_t 435 (by decide +kernel) (by decide +kernel)
theorem m_436 : (Cond.code ({ cls := "LostByState$RuleReader", name := "readNumber", desc := "()Z" } : MethodName) prog_7_method_9_code (3 : Nat) (Option.some FieldType.boolean)) ∈ zTb := zTb_t 436 (by decide +kernel) (by decide +kernel)
theorem m_437 : (Cond.methodLink "LostByState$RuleReader" (57 : Nat) ({ cls := "LostByState$Rule", name := "add", desc := "(I)V" } : MethodName)) ∈ zTb := zTb_t 437 (by decide +kernel) (by decide +kernel)
theorem m_438 : (Cond.instanceMethod ({ cls := "LostByState$Rule", name := "add", desc := "(I)V" } : MethodName)) ∈ zTb := zTb_t 438 (by decide +kernel) (by decide +kernel)
theorem m_439 : (Cond.selects "LostByState$Rule" ({ cls := "LostByState$Rule", name := "add", desc := "(I)V" } : MethodName) ({ cls := "LostByState$Rule", name := "add", desc := "(I)V" } : MethodName)) ∈ zTb := zTb_t 439 (by decide +kernel) (by decide +kernel)
theorem m_440 : (Cond.code ({ cls := "LostByState$Rule", name := "add", desc := "(I)V" } : MethodName) prog_6_method_4_code (2 : Nat) (Option.none : Option FieldType)) ∈ zTb := zTb_t 440 (by decide +kernel) (by decide +kernel)
theorem m_441 : (Cond.methodLink "LostByState$RuleReader" (74 : Nat) ({ cls := "LostByState$RuleReader", name := "readName", desc := "()Z" } : MethodName)) ∈ zTb := zTb_t 441 (by decide +kernel) (by decide +kernel)
theorem m_443 : (Cond.instanceMethod ({ cls := "LostByState$RuleReader", name := "readName", desc := "()Z" } : MethodName)) ∈ zTb := zTb_t 443 (by decide +kernel) (by decide +kernel)
theorem m_444 : (Cond.code ({ cls := "LostByState$RuleReader", name := "readName", desc := "()Z" } : MethodName) prog_7_method_10_code (3 : Nat) (Option.some FieldType.boolean)) ∈ zTb := zTb_t 444 (by decide +kernel) (by decide +kernel)
theorem m_446 : (Cond.methodLink "LostByState$RuleReader" (79 : Nat) ({ cls := "java/lang/String", name := "indexOf", desc := "(I)I" } : MethodName)) ∈ zTb := zTb_t 446 (by decide +kernel) (by decide +kernel)
theorem m_447 : (Cond.instanceMethod ({ cls := "java/lang/String", name := "indexOf", desc := "(I)I" } : MethodName)) ∈ zTb := zTb_t 447 (by decide +kernel) (by decide +kernel)
theorem m_448 : (Cond.selects "java/lang/String" ({ cls := "java/lang/String", name := "indexOf", desc := "(I)I" } : MethodName) ({ cls := "java/lang/String", name := "indexOf", desc := "(I)I" } : MethodName)) ∈ zTb := zTb_t 448 (by decide +kernel) (by decide +kernel)
theorem m_449 : (Cond.code ({ cls := "java/lang/String", name := "indexOf", desc := "(I)I" } : MethodName) prog_23_method_79_code (2 : Nat) (Option.some FieldType.int)) ∈ zTb := zTb_t 449 (by decide +kernel) (by decide +kernel)
theorem m_450 : (Cond.methodLink "java/lang/String" (633 : Nat) ({ cls := "java/lang/String", name := "indexOf", desc := "(II)I" } : MethodName)) ∈ zTb := zTb_t 450 (by decide +kernel) (by decide +kernel)
theorem m_451 : (Cond.instanceMethod ({ cls := "java/lang/String", name := "indexOf", desc := "(II)I" } : MethodName)) ∈ zTb := zTb_t 451 (by decide +kernel) (by decide +kernel)
theorem m_452 : (Cond.selects "java/lang/String" ({ cls := "java/lang/String", name := "indexOf", desc := "(II)I" } : MethodName) ({ cls := "java/lang/String", name := "indexOf", desc := "(II)I" } : MethodName)) ∈ zTb := zTb_t 452 (by decide +kernel) (by decide +kernel)
theorem m_453 : (Cond.code ({ cls := "java/lang/String", name := "indexOf", desc := "(II)I" } : MethodName) prog_23_method_80_code (3 : Nat) (Option.some FieldType.int)) ∈ zTb := zTb_t 453 (by decide +kernel) (by decide +kernel)
theorem m_454 : (Cond.methodLink "java/lang/String" (492 : Nat) ({ cls := "java/lang/String", name := "isLatin1", desc := "()Z" } : MethodName)) ∈ zTb := zTb_t 454 (by decide +kernel) (by decide +kernel)
theorem m_455 : (Cond.instanceMethod ({ cls := "java/lang/String", name := "isLatin1", desc := "()Z" } : MethodName)) ∈ zTb := zTb_t 455 (by decide +kernel) (by decide +kernel)
theorem m_456 : (Cond.selects "java/lang/String" ({ cls := "java/lang/String", name := "isLatin1", desc := "()Z" } : MethodName) ({ cls := "java/lang/String", name := "isLatin1", desc := "()Z" } : MethodName)) ∈ zTb := zTb_t 456 (by decide +kernel) (by decide +kernel)
theorem m_457 : (Cond.code ({ cls := "java/lang/String", name := "isLatin1", desc := "()Z" } : MethodName) prog_23_method_154_code (1 : Nat) (Option.some FieldType.boolean)) ∈ zTb := zTb_t 457 (by decide +kernel) (by decide +kernel)
theorem m_458 : (Cond.fieldLink "java/lang/String" (38 : Nat) "java/lang/String" "COMPACT_STRINGS" "Z") ∈ zTb := zTb_t 458 (by decide +kernel) (by decide +kernel)
theorem m_460 : (Cond.methodLink "java/lang/String" (505 : Nat) ({ cls := "java/lang/String", name := "length", desc := "()I" } : MethodName)) ∈ zTb := zTb_t 460 (by decide +kernel) (by decide +kernel)
theorem m_461 : (Cond.instanceMethod ({ cls := "java/lang/String", name := "length", desc := "()I" } : MethodName)) ∈ zTb := zTb_t 461 (by decide +kernel) (by decide +kernel)
theorem m_462 : (Cond.selects "java/lang/String" ({ cls := "java/lang/String", name := "length", desc := "()I" } : MethodName) ({ cls := "java/lang/String", name := "length", desc := "()I" } : MethodName)) ∈ zTb := zTb_t 462 (by decide +kernel) (by decide +kernel)
theorem m_463 : (Cond.code ({ cls := "java/lang/String", name := "length", desc := "()I" } : MethodName) prog_23_method_54_code (1 : Nat) (Option.some FieldType.int)) ∈ zTb := zTb_t 463 (by decide +kernel) (by decide +kernel)
theorem m_464 : (Cond.methodLink "java/lang/String" (335 : Nat) ({ cls := "java/lang/String", name := "coder", desc := "()B" } : MethodName)) ∈ zTb := zTb_t 464 (by decide +kernel) (by decide +kernel)
theorem m_465 : (Cond.instanceMethod ({ cls := "java/lang/String", name := "coder", desc := "()B" } : MethodName)) ∈ zTb := zTb_t 465 (by decide +kernel) (by decide +kernel)
theorem m_466 : (Cond.selects "java/lang/String" ({ cls := "java/lang/String", name := "coder", desc := "()B" } : MethodName) ({ cls := "java/lang/String", name := "coder", desc := "()B" } : MethodName)) ∈ zTb := zTb_t 466 (by decide +kernel) (by decide +kernel)
theorem m_467 : (Cond.code ({ cls := "java/lang/String", name := "coder", desc := "()B" } : MethodName) prog_23_method_152_code (1 : Nat) (Option.some FieldType.byte)) ∈ zTb := zTb_t 467 (by decide +kernel) (by decide +kernel)
theorem m_468 : (Cond.methodLink "java/lang/String" (637 : Nat) ({ cls := "java/lang/StringLatin1", name := "indexOf", desc := "([BIII)I" } : MethodName)) ∈ zTb := zTb_t 468 (by decide +kernel) (by decide +kernel)
theorem m_469 : (Cond.static ({ cls := "java/lang/StringLatin1", name := "indexOf", desc := "([BIII)I" } : MethodName)) ∈ zTb := zTb_t 469 (by decide +kernel) (by decide +kernel)
theorem m_470 : (Cond.code ({ cls := "java/lang/StringLatin1", name := "indexOf", desc := "([BIII)I" } : MethodName) prog_24_method_22_code (4 : Nat) (Option.some FieldType.int)) ∈ zTb := zTb_t 470 (by decide +kernel) (by decide +kernel)
theorem m_471 : (Cond.methodLink "java/lang/StringLatin1" (88 : Nat) ({ cls := "java/lang/StringLatin1", name := "canEncode", desc := "(I)Z" } : MethodName)) ∈ zTb := zTb_t 471 (by decide +kernel) (by decide +kernel)
theorem m_472 : (Cond.static ({ cls := "java/lang/StringLatin1", name := "canEncode", desc := "(I)Z" } : MethodName)) ∈ zTb := zTb_t 472 (by decide +kernel) (by decide +kernel)
theorem m_473 : (Cond.code ({ cls := "java/lang/StringLatin1", name := "canEncode", desc := "(I)Z" } : MethodName) prog_24_method_4_code (1 : Nat) (Option.some FieldType.boolean)) ∈ zTb := zTb_t 473 (by decide +kernel) (by decide +kernel)
theorem m_474 : (Cond.methodLink "java/lang/StringLatin1" (92 : Nat) ({ cls := "java/lang/Math", name := "max", desc := "(II)I" } : MethodName)) ∈ zTb := zTb_t 474 (by decide +kernel) (by decide +kernel)
theorem m_475 : (Cond.static ({ cls := "java/lang/Math", name := "max", desc := "(II)I" } : MethodName)) ∈ zTb := zTb_t 475 (by decide +kernel) (by decide +kernel)
theorem m_476 : (Cond.code ({ cls := "java/lang/Math", name := "max", desc := "(II)I" } : MethodName) prog_21_method_65_code (2 : Nat) (Option.some FieldType.int)) ∈ zTb := zTb_t 476 (by decide +kernel) (by decide +kernel)
theorem m_477 : (Cond.methodLink "java/lang/StringLatin1" (38 : Nat) ({ cls := "java/lang/Math", name := "min", desc := "(II)I" } : MethodName)) ∈ zTb := zTb_t 477 (by decide +kernel) (by decide +kernel)
theorem m_478 : (Cond.methodLink "java/lang/StringLatin1" (95 : Nat) ({ cls := "java/lang/StringLatin1", name := "indexOfChar", desc := "([BIII)I" } : MethodName)) ∈ zTb := zTb_t 478 (by decide +kernel) (by decide +kernel)
theorem m_479 : (Cond.static ({ cls := "java/lang/StringLatin1", name := "indexOfChar", desc := "([BIII)I" } : MethodName)) ∈ zTb := zTb_t 479 (by decide +kernel) (by decide +kernel)
theorem m_480 : (Cond.code ({ cls := "java/lang/StringLatin1", name := "indexOfChar", desc := "([BIII)I" } : MethodName) prog_24_method_23_code (6 : Nat) (Option.some FieldType.int)) ∈ zTb := zTb_t 480 (by decide +kernel) (by decide +kernel)
theorem m_530 : (Cond.methodLink "LostByState" (162 : Nat) ({ cls := "LostByState$Rule", name := "become", desc := "(LLostByState$Rule;)V" } : MethodName)) ∈ zTb := zTb_t 530 (by decide +kernel) (by decide +kernel)
theorem m_531 : (Cond.instanceMethod ({ cls := "LostByState$Rule", name := "become", desc := "(LLostByState$Rule;)V" } : MethodName)) ∈ zTb := zTb_t 531 (by decide +kernel) (by decide +kernel)
theorem m_532 : (Cond.selects "LostByState$Rule" ({ cls := "LostByState$Rule", name := "become", desc := "(LLostByState$Rule;)V" } : MethodName) ({ cls := "LostByState$Rule", name := "become", desc := "(LLostByState$Rule;)V" } : MethodName)) ∈ zTb := zTb_t 532 (by decide +kernel) (by decide +kernel)
theorem m_533 : (Cond.code ({ cls := "LostByState$Rule", name := "become", desc := "(LLostByState$Rule;)V" } : MethodName) prog_6_method_3_code (2 : Nat) (Option.none : Option FieldType)) ∈ zTb := zTb_t 533 (by decide +kernel) (by decide +kernel)
theorem m_543 : (Cond.methodLink "LostByState" (209 : Nat) ({ cls := "LostByState", name := "sheetEntry", desc := "(II)I" } : MethodName)) ∈ zTb := zTb_t 543 (by decide +kernel) (by decide +kernel)
theorem m_544 : (Cond.static ({ cls := "LostByState", name := "sheetEntry", desc := "(II)I" } : MethodName)) ∈ zTb := zTb_t 544 (by decide +kernel) (by decide +kernel)
theorem m_545 : (Cond.code ({ cls := "LostByState", name := "sheetEntry", desc := "(II)I" } : MethodName) prog_1_method_62_code (3 : Nat) (Option.some FieldType.int)) ∈ zTb := zTb_t 545 (by decide +kernel) (by decide +kernel)
theorem m_546 : (Cond.methodLink "LostByState" (301 : Nat) ({ cls := "LostByState", name := "putBetween", desc := "(III)I" } : MethodName)) ∈ zTb := zTb_t 546 (by decide +kernel) (by decide +kernel)
theorem m_547 : (Cond.static ({ cls := "LostByState", name := "putBetween", desc := "(III)I" } : MethodName)) ∈ zTb := zTb_t 547 (by decide +kernel) (by decide +kernel)
theorem m_548 : (Cond.code ({ cls := "LostByState", name := "putBetween", desc := "(III)I" } : MethodName) prog_1_method_59_code (3 : Nat) (Option.some FieldType.int)) ∈ zTb := zTb_t 548 (by decide +kernel) (by decide +kernel)
theorem m_549 : (Cond.methodLink "LostByState" (410 : Nat) ({ cls := "java/lang/Math", name := "min", desc := "(II)I" } : MethodName)) ∈ zTb := zTb_t 549 (by decide +kernel) (by decide +kernel)
theorem m_550 : (Cond.methodLink "LostByState" (346 : Nat) ({ cls := "java/lang/Math", name := "max", desc := "(II)I" } : MethodName)) ∈ zTb := zTb_t 550 (by decide +kernel) (by decide +kernel)
theorem m_555 : (Cond.methodLink "LostByState" (213 : Nat) ({ cls := "LostByState", name := "act", desc := "(III)I" } : MethodName)) ∈ zTb := zTb_t 555 (by decide +kernel) (by decide +kernel)
theorem m_557 : (Cond.instanceMethod ({ cls := "LostByState", name := "act", desc := "(III)I" } : MethodName)) ∈ zTb := zTb_t 557 (by decide +kernel) (by decide +kernel)
theorem m_558 : (Cond.code ({ cls := "LostByState", name := "act", desc := "(III)I" } : MethodName) prog_1_method_65_code (5 : Nat) (Option.some FieldType.int)) ∈ zTb := zTb_t 558 (by decide +kernel) (by decide +kernel)
theorem m_559 : (Cond.methodLink "LostByState" (220 : Nat) ({ cls := "LostByState$Past", name := "note", desc := "(LLostByState$Whereabouts;)V" } : MethodName)) ∈ zTb := zTb_t 559 (by decide +kernel) (by decide +kernel)
theorem m_560 : (Cond.instanceMethod ({ cls := "LostByState$Past", name := "note", desc := "(LLostByState$Whereabouts;)V" } : MethodName)) ∈ zTb := zTb_t 560 (by decide +kernel) (by decide +kernel)
theorem m_561 : (Cond.selects "LostByState$Past" ({ cls := "LostByState$Past", name := "note", desc := "(LLostByState$Whereabouts;)V" } : MethodName) ({ cls := "LostByState$Past", name := "note", desc := "(LLostByState$Whereabouts;)V" } : MethodName)) ∈ zTb := zTb_t 561 (by decide +kernel) (by decide +kernel)
theorem m_562 : (Cond.code ({ cls := "LostByState$Past", name := "note", desc := "(LLostByState$Whereabouts;)V" } : MethodName) prog_4_method_2_code (2 : Nat) (Option.none : Option FieldType)) ∈ zTb := zTb_t 562 (by decide +kernel) (by decide +kernel)
theorem m_563 : (Cond.methodLink "LostByState$Past" (23 : Nat) ({ cls := "LostByState$Whereabouts", name := "become", desc := "(LLostByState$Whereabouts;)V" } : MethodName)) ∈ zTb := zTb_t 563 (by decide +kernel) (by decide +kernel)
theorem m_564 : (Cond.instanceMethod ({ cls := "LostByState$Whereabouts", name := "become", desc := "(LLostByState$Whereabouts;)V" } : MethodName)) ∈ zTb := zTb_t 564 (by decide +kernel) (by decide +kernel)
theorem m_565 : (Cond.selects "LostByState$Whereabouts" ({ cls := "LostByState$Whereabouts", name := "become", desc := "(LLostByState$Whereabouts;)V" } : MethodName) ({ cls := "LostByState$Whereabouts", name := "become", desc := "(LLostByState$Whereabouts;)V" } : MethodName)) ∈ zTb := zTb_t 565 (by decide +kernel) (by decide +kernel)
theorem m_566 : (Cond.code ({ cls := "LostByState$Whereabouts", name := "become", desc := "(LLostByState$Whereabouts;)V" } : MethodName) prog_12_method_2_code (2 : Nat) (Option.none : Option FieldType)) ∈ zTb := zTb_t 566 (by decide +kernel) (by decide +kernel)
theorem m_567 : (Cond.methodLink "LostByState$Whereabouts" (31 : Nat) ({ cls := "java/lang/System", name := "arraycopy", desc := "(Ljava/lang/Object;ILjava/lang/Object;II)V" } : MethodName)) ∈ zTb := zTb_t 567 (by decide +kernel) (by decide +kernel)
theorem m_568 : (Cond.methodLink "LostByState" (260 : Nat) ({ cls := "LostByState", name := "perform", desc := "(LLostByState$Whereabouts;III)I" } : MethodName)) ∈ zTb := zTb_t 568 (by decide +kernel) (by decide +kernel)
theorem m_570 : (Cond.instanceMethod ({ cls := "LostByState", name := "perform", desc := "(LLostByState$Whereabouts;III)I" } : MethodName)) ∈ zTb := zTb_t 570 (by decide +kernel) (by decide +kernel)
theorem m_571 : (Cond.code ({ cls := "LostByState", name := "perform", desc := "(LLostByState$Whereabouts;III)I" } : MethodName) prog_1_method_66_code (5 : Nat) (Option.some FieldType.int)) ∈ zTb := zTb_t 571 (by decide +kernel) (by decide +kernel)
theorem m_572 : (Cond.methodLink "LostByState" (166 : Nat) ({ cls := "LostByState", name := "isThing", desc := "(I)Z" } : MethodName)) ∈ zTb := zTb_t 572 (by decide +kernel) (by decide +kernel)
theorem m_574 : (Cond.instanceMethod ({ cls := "LostByState", name := "isThing", desc := "(I)Z" } : MethodName)) ∈ zTb := zTb_t 574 (by decide +kernel) (by decide +kernel)
theorem m_575 : (Cond.code ({ cls := "LostByState", name := "isThing", desc := "(I)Z" } : MethodName) prog_1_method_51_code (2 : Nat) (Option.some FieldType.boolean)) ∈ zTb := zTb_t 575 (by decide +kernel) (by decide +kernel)
theorem m_576 : (Cond.methodLink "LostByState" (366 : Nat) ({ cls := "LostByState", name := "isPlace", desc := "(I)Z" } : MethodName)) ∈ zTb := zTb_t 576 (by decide +kernel) (by decide +kernel)
theorem m_577 : (Cond.static ({ cls := "LostByState", name := "isPlace", desc := "(I)Z" } : MethodName)) ∈ zTb := zTb_t 577 (by decide +kernel) (by decide +kernel)
theorem m_578 : (Cond.code ({ cls := "LostByState", name := "isPlace", desc := "(I)Z" } : MethodName) prog_1_method_53_code (1 : Nat) (Option.some FieldType.boolean)) ∈ zTb := zTb_t 578 (by decide +kernel) (by decide +kernel)
theorem m_579 : (Cond.methodLink "LostByState" (419 : Nat) ({ cls := "LostByState$Whereabouts", name := "lose", desc := "(II)I" } : MethodName)) ∈ zTb := zTb_t 579 (by decide +kernel) (by decide +kernel)
theorem m_580 : (Cond.instanceMethod ({ cls := "LostByState$Whereabouts", name := "lose", desc := "(II)I" } : MethodName)) ∈ zTb := zTb_t 580 (by decide +kernel) (by decide +kernel)
theorem m_581 : (Cond.selects "LostByState$Whereabouts" ({ cls := "LostByState$Whereabouts", name := "lose", desc := "(II)I" } : MethodName) ({ cls := "LostByState$Whereabouts", name := "lose", desc := "(II)I" } : MethodName)) ∈ zTb := zTb_t 581 (by decide +kernel) (by decide +kernel)
theorem m_582 : (Cond.code ({ cls := "LostByState$Whereabouts", name := "lose", desc := "(II)I" } : MethodName) prog_12_method_10_code (3 : Nat) (Option.some FieldType.int)) ∈ zTb := zTb_t 582 (by decide +kernel) (by decide +kernel)
theorem m_583 : (Cond.methodLink "LostByState$Whereabouts" (45 : Nat) ({ cls := "LostByState$Whereabouts", name := "lost", desc := "()I" } : MethodName)) ∈ zTb := zTb_t 583 (by decide +kernel) (by decide +kernel)
theorem m_584 : (Cond.instanceMethod ({ cls := "LostByState$Whereabouts", name := "lost", desc := "()I" } : MethodName)) ∈ zTb := zTb_t 584 (by decide +kernel) (by decide +kernel)
theorem m_585 : (Cond.selects "LostByState$Whereabouts" ({ cls := "LostByState$Whereabouts", name := "lost", desc := "()I" } : MethodName) ({ cls := "LostByState$Whereabouts", name := "lost", desc := "()I" } : MethodName)) ∈ zTb := zTb_t 585 (by decide +kernel) (by decide +kernel)
theorem m_586 : (Cond.code ({ cls := "LostByState$Whereabouts", name := "lost", desc := "()I" } : MethodName) prog_12_method_8_code (3 : Nat) (Option.some FieldType.int)) ∈ zTb := zTb_t 586 (by decide +kernel) (by decide +kernel)
theorem m_587 : (Cond.methodLink "LostByState$Whereabouts" (49 : Nat) ({ cls := "java/lang/Integer", name := "bitCount", desc := "(I)I" } : MethodName)) ∈ zTb := zTb_t 587 (by decide +kernel) (by decide +kernel)
theorem m_588 : (Cond.static ({ cls := "java/lang/Integer", name := "bitCount", desc := "(I)I" } : MethodName)) ∈ zTb := zTb_t 588 (by decide +kernel) (by decide +kernel)
theorem m_589 : (Cond.code ({ cls := "java/lang/Integer", name := "bitCount", desc := "(I)I" } : MethodName) prog_20_method_49_code (1 : Nat) (Option.some FieldType.int)) ∈ zTb := zTb_t 589 (by decide +kernel) (by decide +kernel)
theorem m_590 : (Cond.constant "java/lang/Integer" (265 : Nat) (1431655765 : Int32)) ∈ zTb := zTb_t 590 (by decide +kernel) (by decide +kernel)
theorem m_591 : (Cond.constant "java/lang/Integer" (266 : Nat) (858993459 : Int32)) ∈ zTb := zTb_t 591 (by decide +kernel) (by decide +kernel)
theorem m_592 : (Cond.constant "java/lang/Integer" (267 : Nat) (252645135 : Int32)) ∈ zTb := zTb_t 592 (by decide +kernel) (by decide +kernel)
theorem m_593 : (Cond.methodLink "LostByState" (422 : Nat) ({ cls := "LostByState", name := "isPerson", desc := "(I)Z" } : MethodName)) ∈ zTb := zTb_t 593 (by decide +kernel) (by decide +kernel)
theorem m_594 : (Cond.static ({ cls := "LostByState", name := "isPerson", desc := "(I)Z" } : MethodName)) ∈ zTb := zTb_t 594 (by decide +kernel) (by decide +kernel)
theorem m_595 : (Cond.code ({ cls := "LostByState", name := "isPerson", desc := "(I)Z" } : MethodName) prog_1_method_54_code (1 : Nat) (Option.some FieldType.boolean)) ∈ zTb := zTb_t 595 (by decide +kernel) (by decide +kernel)
theorem m_596 : (Cond.methodLink "LostByState" (425 : Nat) ({ cls := "LostByState$Whereabouts", name := "bringIn", desc := "(II)I" } : MethodName)) ∈ zTb := zTb_t 596 (by decide +kernel) (by decide +kernel)
theorem m_597 : (Cond.instanceMethod ({ cls := "LostByState$Whereabouts", name := "bringIn", desc := "(II)I" } : MethodName)) ∈ zTb := zTb_t 597 (by decide +kernel) (by decide +kernel)
theorem m_598 : (Cond.selects "LostByState$Whereabouts" ({ cls := "LostByState$Whereabouts", name := "bringIn", desc := "(II)I" } : MethodName) ({ cls := "LostByState$Whereabouts", name := "bringIn", desc := "(II)I" } : MethodName)) ∈ zTb := zTb_t 598 (by decide +kernel) (by decide +kernel)
theorem m_599 : (Cond.code ({ cls := "LostByState$Whereabouts", name := "bringIn", desc := "(II)I" } : MethodName) prog_12_method_11_code (3 : Nat) (Option.some FieldType.int)) ∈ zTb := zTb_t 599 (by decide +kernel) (by decide +kernel)
theorem m_600 : (Cond.methodLink "LostByState$Whereabouts" (55 : Nat) ({ cls := "LostByState$Whereabouts", name := "inside", desc := "()I" } : MethodName)) ∈ zTb := zTb_t 600 (by decide +kernel) (by decide +kernel)
theorem m_601 : (Cond.instanceMethod ({ cls := "LostByState$Whereabouts", name := "inside", desc := "()I" } : MethodName)) ∈ zTb := zTb_t 601 (by decide +kernel) (by decide +kernel)
theorem m_602 : (Cond.selects "LostByState$Whereabouts" ({ cls := "LostByState$Whereabouts", name := "inside", desc := "()I" } : MethodName) ({ cls := "LostByState$Whereabouts", name := "inside", desc := "()I" } : MethodName)) ∈ zTb := zTb_t 602 (by decide +kernel) (by decide +kernel)
theorem m_603 : (Cond.code ({ cls := "LostByState$Whereabouts", name := "inside", desc := "()I" } : MethodName) prog_12_method_9_code (3 : Nat) (Option.some FieldType.int)) ∈ zTb := zTb_t 603 (by decide +kernel) (by decide +kernel)
theorem m_604 : (Cond.methodLink "LostByState$Whereabouts" (41 : Nat) ({ cls := "LostByState$Whereabouts", name := "isIn", desc := "(I)Z" } : MethodName)) ∈ zTb := zTb_t 604 (by decide +kernel) (by decide +kernel)
theorem m_605 : (Cond.instanceMethod ({ cls := "LostByState$Whereabouts", name := "isIn", desc := "(I)Z" } : MethodName)) ∈ zTb := zTb_t 605 (by decide +kernel) (by decide +kernel)
theorem m_606 : (Cond.selects "LostByState$Whereabouts" ({ cls := "LostByState$Whereabouts", name := "isIn", desc := "(I)Z" } : MethodName) ({ cls := "LostByState$Whereabouts", name := "isIn", desc := "(I)Z" } : MethodName)) ∈ zTb := zTb_t 606 (by decide +kernel) (by decide +kernel)
theorem m_607 : (Cond.code ({ cls := "LostByState$Whereabouts", name := "isIn", desc := "(I)Z" } : MethodName) prog_12_method_5_code (2 : Nat) (Option.some FieldType.boolean)) ∈ zTb := zTb_t 607 (by decide +kernel) (by decide +kernel)
theorem m_608 : (Cond.methodLink "LostByState" (428 : Nat) ({ cls := "LostByState", name := "isSomebody", desc := "(I)Z" } : MethodName)) ∈ zTb := zTb_t 608 (by decide +kernel) (by decide +kernel)
theorem m_609 : (Cond.static ({ cls := "LostByState", name := "isSomebody", desc := "(I)Z" } : MethodName)) ∈ zTb := zTb_t 609 (by decide +kernel) (by decide +kernel)
theorem m_610 : (Cond.code ({ cls := "LostByState", name := "isSomebody", desc := "(I)Z" } : MethodName) prog_1_method_55_code (1 : Nat) (Option.some FieldType.boolean)) ∈ zTb := zTb_t 610 (by decide +kernel) (by decide +kernel)
theorem m_611 : (Cond.methodLink "LostByState" (269 : Nat) ({ cls := "LostByState", name := "isDescription", desc := "(I)Z" } : MethodName)) ∈ zTb := zTb_t 611 (by decide +kernel) (by decide +kernel)
theorem m_612 : (Cond.static ({ cls := "LostByState", name := "isDescription", desc := "(I)Z" } : MethodName)) ∈ zTb := zTb_t 612 (by decide +kernel) (by decide +kernel)
theorem m_613 : (Cond.code ({ cls := "LostByState", name := "isDescription", desc := "(I)Z" } : MethodName) prog_1_method_56_code (1 : Nat) (Option.some FieldType.boolean)) ∈ zTb := zTb_t 613 (by decide +kernel) (by decide +kernel)
theorem m_614 : (Cond.methodLink "LostByState" (431 : Nat) ({ cls := "LostByState", name := "handOut", desc := "(LLostByState$Whereabouts;II)I" } : MethodName)) ∈ zTb := zTb_t 614 (by decide +kernel) (by decide +kernel)
theorem m_616 : (Cond.instanceMethod ({ cls := "LostByState", name := "handOut", desc := "(LLostByState$Whereabouts;II)I" } : MethodName)) ∈ zTb := zTb_t 616 (by decide +kernel) (by decide +kernel)
theorem m_617 : (Cond.code ({ cls := "LostByState", name := "handOut", desc := "(LLostByState$Whereabouts;II)I" } : MethodName) prog_1_method_67_code (5 : Nat) (Option.some FieldType.int)) ∈ zTb := zTb_t 617 (by decide +kernel) (by decide +kernel)
theorem m_618 : (Cond.methodLink "LostByState" (279 : Nat) ({ cls := "LostByState", name := "bestThing", desc := "(ILLostByState$Whereabouts;)I" } : MethodName)) ∈ zTb := zTb_t 618 (by decide +kernel) (by decide +kernel)
theorem m_620 : (Cond.instanceMethod ({ cls := "LostByState", name := "bestThing", desc := "(ILLostByState$Whereabouts;)I" } : MethodName)) ∈ zTb := zTb_t 620 (by decide +kernel) (by decide +kernel)
theorem m_621 : (Cond.code ({ cls := "LostByState", name := "bestThing", desc := "(ILLostByState$Whereabouts;)I" } : MethodName) prog_1_method_69_code (7 : Nat) (Option.some FieldType.int)) ∈ zTb := zTb_t 621 (by decide +kernel) (by decide +kernel)
theorem m_622 : (Cond.methodLink "LostByState" (316 : Nat) ({ cls := "LostByState$Whereabouts", name := "isIn", desc := "(I)Z" } : MethodName)) ∈ zTb := zTb_t 622 (by decide +kernel) (by decide +kernel)
theorem m_623 : (Cond.methodLink "LostByState" (272 : Nat) ({ cls := "LostByState", name := "matchOf", desc := "(IILLostByState$Whereabouts;)I" } : MethodName)) ∈ zTb := zTb_t 623 (by decide +kernel) (by decide +kernel)
theorem m_625 : (Cond.instanceMethod ({ cls := "LostByState", name := "matchOf", desc := "(IILLostByState$Whereabouts;)I" } : MethodName)) ∈ zTb := zTb_t 625 (by decide +kernel) (by decide +kernel)
theorem m_626 : (Cond.code ({ cls := "LostByState", name := "matchOf", desc := "(IILLostByState$Whereabouts;)I" } : MethodName) prog_1_method_68_code (9 : Nat) (Option.some FieldType.int)) ∈ zTb := zTb_t 626 (by decide +kernel) (by decide +kernel)
theorem m_627 : (Cond.methodLink "LostByState" (240 : Nat) ({ cls := "java/lang/Integer", name := "bitCount", desc := "(I)I" } : MethodName)) ∈ zTb := zTb_t 627 (by decide +kernel) (by decide +kernel)
theorem m_628 : (Cond.methodLink "LostByState" (441 : Nat) ({ cls := "LostByState$Whereabouts", name := "weekday", desc := "()I" } : MethodName)) ∈ zTb := zTb_t 628 (by decide +kernel) (by decide +kernel)
theorem m_629 : (Cond.instanceMethod ({ cls := "LostByState$Whereabouts", name := "weekday", desc := "()I" } : MethodName)) ∈ zTb := zTb_t 629 (by decide +kernel) (by decide +kernel)
theorem m_630 : (Cond.selects "LostByState$Whereabouts" ({ cls := "LostByState$Whereabouts", name := "weekday", desc := "()I" } : MethodName) ({ cls := "LostByState$Whereabouts", name := "weekday", desc := "()I" } : MethodName)) ∈ zTb := zTb_t 630 (by decide +kernel) (by decide +kernel)
theorem m_631 : (Cond.code ({ cls := "LostByState$Whereabouts", name := "weekday", desc := "()I" } : MethodName) prog_12_method_6_code (1 : Nat) (Option.some FieldType.int)) ∈ zTb := zTb_t 631 (by decide +kernel) (by decide +kernel)
theorem m_632 : (Cond.methodLink "LostByState" (444 : Nat) ({ cls := "LostByState$Rule", name := "valueOf", desc := "(IIIIII)I" } : MethodName)) ∈ zTb := zTb_t 632 (by decide +kernel) (by decide +kernel)
theorem m_633 : (Cond.instanceMethod ({ cls := "LostByState$Rule", name := "valueOf", desc := "(IIIIII)I" } : MethodName)) ∈ zTb := zTb_t 633 (by decide +kernel) (by decide +kernel)
theorem m_634 : (Cond.selects "LostByState$Rule" ({ cls := "LostByState$Rule", name := "valueOf", desc := "(IIIIII)I" } : MethodName) ({ cls := "LostByState$Rule", name := "valueOf", desc := "(IIIIII)I" } : MethodName)) ∈ zTb := zTb_t 634 (by decide +kernel) (by decide +kernel)
theorem m_635 : (Cond.code ({ cls := "LostByState$Rule", name := "valueOf", desc := "(IIIIII)I" } : MethodName) prog_6_method_5_code (10 : Nat) (Option.some FieldType.int)) ∈ zTb := zTb_t 635 (by decide +kernel) (by decide +kernel)
theorem m_636 : (Cond.methodLink "LostByState$Rule" (37 : Nat) ({ cls := "LostByState$Rule", name := "namedValue", desc := "(I)I" } : MethodName)) ∈ zTb := zTb_t 636 (by decide +kernel) (by decide +kernel)
theorem m_638 : (Cond.instanceMethod ({ cls := "LostByState$Rule", name := "namedValue", desc := "(I)I" } : MethodName)) ∈ zTb := zTb_t 638 (by decide +kernel) (by decide +kernel)
theorem m_639 : (Cond.code ({ cls := "LostByState$Rule", name := "namedValue", desc := "(I)I" } : MethodName) prog_6_method_6_code (2 : Nat) (Option.some FieldType.int)) ∈ zTb := zTb_t 639 (by decide +kernel) (by decide +kernel)
theorem m_640 : (Cond.methodLink "LostByState$Rule" (41 : Nat) ({ cls := "LostByState$Rule", name := "joined", desc := "(III)I" } : MethodName)) ∈ zTb := zTb_t 640 (by decide +kernel) (by decide +kernel)
theorem m_641 : (Cond.static ({ cls := "LostByState$Rule", name := "joined", desc := "(III)I" } : MethodName)) ∈ zTb := zTb_t 641 (by decide +kernel) (by decide +kernel)
theorem m_642 : (Cond.code ({ cls := "LostByState$Rule", name := "joined", desc := "(III)I" } : MethodName) prog_6_method_7_code (3 : Nat) (Option.some FieldType.int)) ∈ zTb := zTb_t 642 (by decide +kernel) (by decide +kernel)
theorem m_643 : (Cond.methodLink "LostByState" (438 : Nat) ({ cls := "LostByState$Whereabouts", name := "putWith", desc := "(II)V" } : MethodName)) ∈ zTb := zTb_t 643 (by decide +kernel) (by decide +kernel)
theorem m_644 : (Cond.methodLink "LostByState" (435 : Nat) ({ cls := "LostByState$Whereabouts", name := "hand", desc := "(II)I" } : MethodName)) ∈ zTb := zTb_t 644 (by decide +kernel) (by decide +kernel)
theorem m_645 : (Cond.instanceMethod ({ cls := "LostByState$Whereabouts", name := "hand", desc := "(II)I" } : MethodName)) ∈ zTb := zTb_t 645 (by decide +kernel) (by decide +kernel)
theorem m_646 : (Cond.selects "LostByState$Whereabouts" ({ cls := "LostByState$Whereabouts", name := "hand", desc := "(II)I" } : MethodName) ({ cls := "LostByState$Whereabouts", name := "hand", desc := "(II)I" } : MethodName)) ∈ zTb := zTb_t 646 (by decide +kernel) (by decide +kernel)
theorem m_647 : (Cond.code ({ cls := "LostByState$Whereabouts", name := "hand", desc := "(II)I" } : MethodName) prog_12_method_12_code (4 : Nat) (Option.some FieldType.int)) ∈ zTb := zTb_t 647 (by decide +kernel) (by decide +kernel)
theorem m_648 : (Cond.methodLink "LostByState" (217 : Nat) ({ cls := "LostByState", name := "isSpan", desc := "(I)Z" } : MethodName)) ∈ zTb := zTb_t 648 (by decide +kernel) (by decide +kernel)
theorem m_649 : (Cond.static ({ cls := "LostByState", name := "isSpan", desc := "(I)Z" } : MethodName)) ∈ zTb := zTb_t 649 (by decide +kernel) (by decide +kernel)
theorem m_650 : (Cond.code ({ cls := "LostByState", name := "isSpan", desc := "(I)Z" } : MethodName) prog_1_method_57_code (1 : Nat) (Option.some FieldType.boolean)) ∈ zTb := zTb_t 650 (by decide +kernel) (by decide +kernel)
theorem m_651 : (Cond.methodLink "LostByState" (224 : Nat) ({ cls := "LostByState$Whereabouts", name := "passDays", desc := "(II)I" } : MethodName)) ∈ zTb := zTb_t 651 (by decide +kernel) (by decide +kernel)
theorem m_652 : (Cond.instanceMethod ({ cls := "LostByState$Whereabouts", name := "passDays", desc := "(II)I" } : MethodName)) ∈ zTb := zTb_t 652 (by decide +kernel) (by decide +kernel)
theorem m_653 : (Cond.selects "LostByState$Whereabouts" ({ cls := "LostByState$Whereabouts", name := "passDays", desc := "(II)I" } : MethodName) ({ cls := "LostByState$Whereabouts", name := "passDays", desc := "(II)I" } : MethodName)) ∈ zTb := zTb_t 653 (by decide +kernel) (by decide +kernel)
theorem m_654 : (Cond.code ({ cls := "LostByState$Whereabouts", name := "passDays", desc := "(II)I" } : MethodName) prog_12_method_14_code (5 : Nat) (Option.some FieldType.int)) ∈ zTb := zTb_t 654 (by decide +kernel) (by decide +kernel)
theorem m_655 : (Cond.methodLink "LostByState$Whereabouts" (64 : Nat) ({ cls := "LostByState$Whereabouts", name := "passDay", desc := "(I)I" } : MethodName)) ∈ zTb := zTb_t 655 (by decide +kernel) (by decide +kernel)
theorem m_657 : (Cond.instanceMethod ({ cls := "LostByState$Whereabouts", name := "passDay", desc := "(I)I" } : MethodName)) ∈ zTb := zTb_t 657 (by decide +kernel) (by decide +kernel)
theorem m_658 : (Cond.code ({ cls := "LostByState$Whereabouts", name := "passDay", desc := "(I)I" } : MethodName) prog_12_method_15_code (4 : Nat) (Option.some FieldType.int)) ∈ zTb := zTb_t 658 (by decide +kernel) (by decide +kernel)
theorem m_659 : (Cond.methodLink "LostByState$Whereabouts" (67 : Nat) ({ cls := "java/lang/Math", name := "min", desc := "(II)I" } : MethodName)) ∈ zTb := zTb_t 659 (by decide +kernel) (by decide +kernel)
theorem m_660 : (Cond.methodLink "LostByState" (227 : Nat) ({ cls := "LostByState$Past", name := "keepNoted", desc := "()V" } : MethodName)) ∈ zTb := zTb_t 660 (by decide +kernel) (by decide +kernel)
theorem m_661 : (Cond.instanceMethod ({ cls := "LostByState$Past", name := "keepNoted", desc := "()V" } : MethodName)) ∈ zTb := zTb_t 661 (by decide +kernel) (by decide +kernel)
theorem m_662 : (Cond.selects "LostByState$Past" ({ cls := "LostByState$Past", name := "keepNoted", desc := "()V" } : MethodName) ({ cls := "LostByState$Past", name := "keepNoted", desc := "()V" } : MethodName)) ∈ zTb := zTb_t 662 (by decide +kernel) (by decide +kernel)
theorem m_663 : (Cond.code ({ cls := "LostByState$Past", name := "keepNoted", desc := "()V" } : MethodName) prog_4_method_3_code (1 : Nat) (Option.none : Option FieldType)) ∈ zTb := zTb_t 663 (by decide +kernel) (by decide +kernel)
theorem m_664 : (Cond.methodLink "LostByState$Past" (27 : Nat) ({ cls := "java/lang/Math", name := "min", desc := "(II)I" } : MethodName)) ∈ zTb := zTb_t 664 (by decide +kernel) (by decide +kernel)
theorem m_681 : (Cond.methodLink "LostByState" (230 : Nat) ({ cls := "LostByState$Row", name := "begin", desc := "()V" } : MethodName)) ∈ zTb := zTb_t 681 (by decide +kernel) (by decide +kernel)
theorem m_682 : (Cond.instanceMethod ({ cls := "LostByState$Row", name := "begin", desc := "()V" } : MethodName)) ∈ zTb := zTb_t 682 (by decide +kernel) (by decide +kernel)
theorem m_683 : (Cond.selects "LostByState$Row" ({ cls := "LostByState$Row", name := "begin", desc := "()V" } : MethodName) ({ cls := "LostByState$Row", name := "begin", desc := "()V" } : MethodName)) ∈ zTb := zTb_t 683 (by decide +kernel) (by decide +kernel)
theorem m_684 : (Cond.code ({ cls := "LostByState$Row", name := "begin", desc := "()V" } : MethodName) prog_5_method_2_code (1 : Nat) (Option.none : Option FieldType)) ∈ zTb := zTb_t 684 (by decide +kernel) (by decide +kernel)
theorem m_685 : (Cond.methodLink "LostByState" (233 : Nat) ({ cls := "LostByState$Row", name := "tell", desc := "(J)V" } : MethodName)) ∈ zTb := zTb_t 685 (by decide +kernel) (by decide +kernel)
theorem m_686 : (Cond.instanceMethod ({ cls := "LostByState$Row", name := "tell", desc := "(J)V" } : MethodName)) ∈ zTb := zTb_t 686 (by decide +kernel) (by decide +kernel)
theorem m_687 : (Cond.selects "LostByState$Row" ({ cls := "LostByState$Row", name := "tell", desc := "(J)V" } : MethodName) ({ cls := "LostByState$Row", name := "tell", desc := "(J)V" } : MethodName)) ∈ zTb := zTb_t 687 (by decide +kernel) (by decide +kernel)
theorem m_688 : (Cond.code ({ cls := "LostByState$Row", name := "tell", desc := "(J)V" } : MethodName) prog_5_method_3_code (3 : Nat) (Option.none : Option FieldType)) ∈ zTb := zTb_t 688 (by decide +kernel) (by decide +kernel)
theorem m_689 : (Cond.methodLink "LostByState" (204 : Nat) ({ cls := "LostByState$Whereabouts", name := "heldBy", desc := "(I)I" } : MethodName)) ∈ zTb := zTb_t 689 (by decide +kernel) (by decide +kernel)
theorem m_690 : (Cond.instanceMethod ({ cls := "LostByState$Whereabouts", name := "heldBy", desc := "(I)I" } : MethodName)) ∈ zTb := zTb_t 690 (by decide +kernel) (by decide +kernel)
theorem m_691 : (Cond.selects "LostByState$Whereabouts" ({ cls := "LostByState$Whereabouts", name := "heldBy", desc := "(I)I" } : MethodName) ({ cls := "LostByState$Whereabouts", name := "heldBy", desc := "(I)I" } : MethodName)) ∈ zTb := zTb_t 691 (by decide +kernel) (by decide +kernel)
theorem m_692 : (Cond.code ({ cls := "LostByState$Whereabouts", name := "heldBy", desc := "(I)I" } : MethodName) prog_12_method_7_code (4 : Nat) (Option.some FieldType.int)) ∈ zTb := zTb_t 692 (by decide +kernel) (by decide +kernel)
theorem m_693 : (Cond.methodLink "LostByState" (237 : Nat) ({ cls := "LostByState$Stock", name := "doableWith", desc := "(I)I" } : MethodName)) ∈ zTb := zTb_t 693 (by decide +kernel) (by decide +kernel)
theorem m_694 : (Cond.instanceMethod ({ cls := "LostByState$Stock", name := "doableWith", desc := "(I)I" } : MethodName)) ∈ zTb := zTb_t 694 (by decide +kernel) (by decide +kernel)
theorem m_695 : (Cond.selects "LostByState$Stock" ({ cls := "LostByState$Stock", name := "doableWith", desc := "(I)I" } : MethodName) ({ cls := "LostByState$Stock", name := "doableWith", desc := "(I)I" } : MethodName)) ∈ zTb := zTb_t 695 (by decide +kernel) (by decide +kernel)
theorem m_696 : (Cond.code ({ cls := "LostByState$Stock", name := "doableWith", desc := "(I)I" } : MethodName) prog_9_method_4_code (4 : Nat) (Option.some FieldType.int)) ∈ zTb := zTb_t 696 (by decide +kernel) (by decide +kernel)
theorem m_701 : (Cond.methodLink "LostByState" (245 : Nat) ({ cls := "LostByState$Acts", name := "readFrom", desc := "(LLostByState$Text;)I" } : MethodName)) ∈ zTb := zTb_t 701 (by decide +kernel) (by decide +kernel)
theorem m_702 : (Cond.instanceMethod ({ cls := "LostByState$Acts", name := "readFrom", desc := "(LLostByState$Text;)I" } : MethodName)) ∈ zTb := zTb_t 702 (by decide +kernel) (by decide +kernel)
theorem m_703 : (Cond.selects "LostByState$Acts" ({ cls := "LostByState$Acts", name := "readFrom", desc := "(LLostByState$Text;)I" } : MethodName) ({ cls := "LostByState$Acts", name := "readFrom", desc := "(LLostByState$Text;)I" } : MethodName)) ∈ zTb := zTb_t 703 (by decide +kernel) (by decide +kernel)
theorem m_704 : (Cond.code ({ cls := "LostByState$Acts", name := "readFrom", desc := "(LLostByState$Text;)I" } : MethodName) prog_2_method_2_code (7 : Nat) (Option.some FieldType.int)) ∈ zTb := zTb_t 704 (by decide +kernel) (by decide +kernel)
theorem m_705 : (Cond.methodLink "LostByState$Acts" (30 : Nat) ({ cls := "java/lang/Math", name := "min", desc := "(II)I" } : MethodName)) ∈ zTb := zTb_t 705 (by decide +kernel) (by decide +kernel)
theorem m_706 : (Cond.methodLink "LostByState$Acts" (36 : Nat) ({ cls := "LostByState$Text", name := "signAt", desc := "(I)I" } : MethodName)) ∈ zTb := zTb_t 706 (by decide +kernel) (by decide +kernel)
theorem m_707 : (Cond.methodLink "LostByState$Acts" (40 : Nat) ({ cls := "LostByState$Acts", name := "digitsOf", desc := "(I)I" } : MethodName)) ∈ zTb := zTb_t 707 (by decide +kernel) (by decide +kernel)
theorem m_708 : (Cond.static ({ cls := "LostByState$Acts", name := "digitsOf", desc := "(I)I" } : MethodName)) ∈ zTb := zTb_t 708 (by decide +kernel) (by decide +kernel)
theorem m_709 : (Cond.code ({ cls := "LostByState$Acts", name := "digitsOf", desc := "(I)I" } : MethodName) prog_2_method_3_code (1 : Nat) (Option.some FieldType.int)) ∈ zTb := zTb_t 709 (by decide +kernel) (by decide +kernel)
theorem m_710 : (Cond.methodLink "LostByState$Acts" (43 : Nat) ({ cls := "LostByState$Acts", name := "readMarks", desc := "(LLostByState$Text;II)I" } : MethodName)) ∈ zTb := zTb_t 710 (by decide +kernel) (by decide +kernel)
theorem m_711 : (Cond.static ({ cls := "LostByState$Acts", name := "readMarks", desc := "(LLostByState$Text;II)I" } : MethodName)) ∈ zTb := zTb_t 711 (by decide +kernel) (by decide +kernel)
theorem m_712 : (Cond.code ({ cls := "LostByState$Acts", name := "readMarks", desc := "(LLostByState$Text;II)I" } : MethodName) prog_2_method_4_code (7 : Nat) (Option.some FieldType.int)) ∈ zTb := zTb_t 712 (by decide +kernel) (by decide +kernel)
theorem m_713 : (Cond.methodLink "LostByState$Acts" (47 : Nat) ({ cls := "java/lang/Integer", name := "bitCount", desc := "(I)I" } : MethodName)) ∈ zTb := zTb_t 713 (by decide +kernel) (by decide +kernel)
theorem m_718 : (Cond.methodLink "LostByState" (264 : Nat) ({ cls := "LostByState$Past", name := "bringBack", desc := "(LLostByState$Whereabouts;)Z" } : MethodName)) ∈ zTb := zTb_t 718 (by decide +kernel) (by decide +kernel)
theorem m_719 : (Cond.instanceMethod ({ cls := "LostByState$Past", name := "bringBack", desc := "(LLostByState$Whereabouts;)Z" } : MethodName)) ∈ zTb := zTb_t 719 (by decide +kernel) (by decide +kernel)
theorem m_720 : (Cond.selects "LostByState$Past" ({ cls := "LostByState$Past", name := "bringBack", desc := "(LLostByState$Whereabouts;)Z" } : MethodName) ({ cls := "LostByState$Past", name := "bringBack", desc := "(LLostByState$Whereabouts;)Z" } : MethodName)) ∈ zTb := zTb_t 720 (by decide +kernel) (by decide +kernel)
theorem m_721 : (Cond.code ({ cls := "LostByState$Past", name := "bringBack", desc := "(LLostByState$Whereabouts;)Z" } : MethodName) prog_4_method_4_code (2 : Nat) (Option.some FieldType.boolean)) ∈ zTb := zTb_t 721 (by decide +kernel) (by decide +kernel)
theorem m_726 : (Cond.methodLink "LostByState" (276 : Nat) ({ cls := "LostByState", name := "toldMatch", desc := "(I)I" } : MethodName)) ∈ zTb := zTb_t 726 (by decide +kernel) (by decide +kernel)
theorem m_727 : (Cond.static ({ cls := "LostByState", name := "toldMatch", desc := "(I)I" } : MethodName)) ∈ zTb := zTb_t 727 (by decide +kernel) (by decide +kernel)
theorem m_728 : (Cond.code ({ cls := "LostByState", name := "toldMatch", desc := "(I)I" } : MethodName) prog_1_method_60_code (1 : Nat) (Option.some FieldType.int)) ∈ zTb := zTb_t 728 (by decide +kernel) (by decide +kernel)
theorem m_733 : (Cond.methodLink "LostByState" (283 : Nat) ({ cls := "LostByState", name := "howManyMatch", desc := "(I)I" } : MethodName)) ∈ zTb := zTb_t 733 (by decide +kernel) (by decide +kernel)
theorem m_735 : (Cond.instanceMethod ({ cls := "LostByState", name := "howManyMatch", desc := "(I)I" } : MethodName)) ∈ zTb := zTb_t 735 (by decide +kernel) (by decide +kernel)
theorem m_736 : (Cond.code ({ cls := "LostByState", name := "howManyMatch", desc := "(I)I" } : MethodName) prog_1_method_70_code (4 : Nat) (Option.some FieldType.int)) ∈ zTb := zTb_t 736 (by decide +kernel) (by decide +kernel)
theorem m_741 : (Cond.methodLink "LostByState" (286 : Nat) ({ cls := "LostByState", name := "surveyBy", desc := "(LLostByState$Rule;)V" } : MethodName)) ∈ zTb := zTb_t 741 (by decide +kernel) (by decide +kernel)
theorem m_743 : (Cond.instanceMethod ({ cls := "LostByState", name := "surveyBy", desc := "(LLostByState$Rule;)V" } : MethodName)) ∈ zTb := zTb_t 743 (by decide +kernel) (by decide +kernel)
theorem m_744 : (Cond.code ({ cls := "LostByState", name := "surveyBy", desc := "(LLostByState$Rule;)V" } : MethodName) prog_1_method_71_code (4 : Nat) (Option.none : Option FieldType)) ∈ zTb := zTb_t 744 (by decide +kernel) (by decide +kernel)
theorem m_745 : (Cond.methodLink "LostByState" (448 : Nat) ({ cls := "LostByState$Survey", name := "clear", desc := "()V" } : MethodName)) ∈ zTb := zTb_t 745 (by decide +kernel) (by decide +kernel)
theorem m_746 : (Cond.instanceMethod ({ cls := "LostByState$Survey", name := "clear", desc := "()V" } : MethodName)) ∈ zTb := zTb_t 746 (by decide +kernel) (by decide +kernel)
theorem m_747 : (Cond.selects "LostByState$Survey" ({ cls := "LostByState$Survey", name := "clear", desc := "()V" } : MethodName) ({ cls := "LostByState$Survey", name := "clear", desc := "()V" } : MethodName)) ∈ zTb := zTb_t 747 (by decide +kernel) (by decide +kernel)
theorem m_748 : (Cond.code ({ cls := "LostByState$Survey", name := "clear", desc := "()V" } : MethodName) prog_10_method_2_code (2 : Nat) (Option.none : Option FieldType)) ∈ zTb := zTb_t 748 (by decide +kernel) (by decide +kernel)
theorem m_749 : (Cond.methodLink "LostByState" (449 : Nat) ({ cls := "LostByState$Survey", name := "weigh", desc := "(LLostByState$Rule;IIII)V" } : MethodName)) ∈ zTb := zTb_t 749 (by decide +kernel) (by decide +kernel)
theorem m_750 : (Cond.instanceMethod ({ cls := "LostByState$Survey", name := "weigh", desc := "(LLostByState$Rule;IIII)V" } : MethodName)) ∈ zTb := zTb_t 750 (by decide +kernel) (by decide +kernel)
theorem m_751 : (Cond.selects "LostByState$Survey" ({ cls := "LostByState$Survey", name := "weigh", desc := "(LLostByState$Rule;IIII)V" } : MethodName) ({ cls := "LostByState$Survey", name := "weigh", desc := "(LLostByState$Rule;IIII)V" } : MethodName)) ∈ zTb := zTb_t 751 (by decide +kernel) (by decide +kernel)
theorem m_752 : (Cond.code ({ cls := "LostByState$Survey", name := "weigh", desc := "(LLostByState$Rule;IIII)V" } : MethodName) prog_10_method_3_code (9 : Nat) (Option.none : Option FieldType)) ∈ zTb := zTb_t 752 (by decide +kernel) (by decide +kernel)
theorem m_753 : (Cond.methodLink "LostByState$Survey" (21 : Nat) ({ cls := "java/lang/Integer", name := "bitCount", desc := "(I)I" } : MethodName)) ∈ zTb := zTb_t 753 (by decide +kernel) (by decide +kernel)
theorem m_754 : (Cond.methodLink "LostByState$Survey" (27 : Nat) ({ cls := "LostByState$Rule", name := "valueOf", desc := "(IIIIII)I" } : MethodName)) ∈ zTb := zTb_t 754 (by decide +kernel) (by decide +kernel)
theorem m_755 : (Cond.methodLink "LostByState" (453 : Nat) ({ cls := "LostByState$Survey", name := "offer", desc := "(III)V" } : MethodName)) ∈ zTb := zTb_t 755 (by decide +kernel) (by decide +kernel)
theorem m_756 : (Cond.instanceMethod ({ cls := "LostByState$Survey", name := "offer", desc := "(III)V" } : MethodName)) ∈ zTb := zTb_t 756 (by decide +kernel) (by decide +kernel)
theorem m_757 : (Cond.selects "LostByState$Survey" ({ cls := "LostByState$Survey", name := "offer", desc := "(III)V" } : MethodName) ({ cls := "LostByState$Survey", name := "offer", desc := "(III)V" } : MethodName)) ∈ zTb := zTb_t 757 (by decide +kernel) (by decide +kernel)
theorem m_758 : (Cond.code ({ cls := "LostByState$Survey", name := "offer", desc := "(III)V" } : MethodName) prog_10_method_4_code (7 : Nat) (Option.none : Option FieldType)) ∈ zTb := zTb_t 758 (by decide +kernel) (by decide +kernel)
theorem m_763 : (Cond.methodLink "LostByState" (292 : Nat) ({ cls := "LostByState$Survey", name := "howManyGet", desc := "(I)I" } : MethodName)) ∈ zTb := zTb_t 763 (by decide +kernel) (by decide +kernel)
theorem m_764 : (Cond.instanceMethod ({ cls := "LostByState$Survey", name := "howManyGet", desc := "(I)I" } : MethodName)) ∈ zTb := zTb_t 764 (by decide +kernel) (by decide +kernel)
theorem m_765 : (Cond.selects "LostByState$Survey" ({ cls := "LostByState$Survey", name := "howManyGet", desc := "(I)I" } : MethodName) ({ cls := "LostByState$Survey", name := "howManyGet", desc := "(I)I" } : MethodName)) ∈ zTb := zTb_t 765 (by decide +kernel) (by decide +kernel)
theorem m_766 : (Cond.code ({ cls := "LostByState$Survey", name := "howManyGet", desc := "(I)I" } : MethodName) prog_10_method_5_code (4 : Nat) (Option.some FieldType.int)) ∈ zTb := zTb_t 766 (by decide +kernel) (by decide +kernel)
theorem m_771 : (Cond.methodLink "LostByState" (304 : Nat) ({ cls := "LostByState$Whereabouts", name := "inside", desc := "()I" } : MethodName)) ∈ zTb := zTb_t 771 (by decide +kernel) (by decide +kernel)
theorem m_772 : (Cond.methodLink "LostByState" (307 : Nat) ({ cls := "LostByState$Sharing", name := "workOut", desc := "(II)V" } : MethodName)) ∈ zTb := zTb_t 772 (by decide +kernel) (by decide +kernel)
theorem m_773 : (Cond.instanceMethod ({ cls := "LostByState$Sharing", name := "workOut", desc := "(II)V" } : MethodName)) ∈ zTb := zTb_t 773 (by decide +kernel) (by decide +kernel)
theorem m_774 : (Cond.selects "LostByState$Sharing" ({ cls := "LostByState$Sharing", name := "workOut", desc := "(II)V" } : MethodName) ({ cls := "LostByState$Sharing", name := "workOut", desc := "(II)V" } : MethodName)) ∈ zTb := zTb_t 774 (by decide +kernel) (by decide +kernel)
theorem m_775 : (Cond.code ({ cls := "LostByState$Sharing", name := "workOut", desc := "(II)V" } : MethodName) prog_8_method_2_code (5 : Nat) (Option.none : Option FieldType)) ∈ zTb := zTb_t 775 (by decide +kernel) (by decide +kernel)
theorem m_776 : (Cond.methodLink "LostByState$Sharing" (21 : Nat) ({ cls := "LostByState$Sharing", name := "mostFrom", desc := "(III)I" } : MethodName)) ∈ zTb := zTb_t 776 (by decide +kernel) (by decide +kernel)
theorem m_778 : (Cond.instanceMethod ({ cls := "LostByState$Sharing", name := "mostFrom", desc := "(III)I" } : MethodName)) ∈ zTb := zTb_t 778 (by decide +kernel) (by decide +kernel)
theorem m_779 : (Cond.code ({ cls := "LostByState$Sharing", name := "mostFrom", desc := "(III)I" } : MethodName) prog_8_method_3_code (6 : Nat) (Option.some FieldType.int)) ∈ zTb := zTb_t 779 (by decide +kernel) (by decide +kernel)
theorem m_781 : (Cond.static ({ cls := "LostByState", name := "isOf", desc := "(II)Z" } : MethodName)) ∈ zTb := zTb_t 781 (by decide +kernel) (by decide +kernel)
theorem m_782 : (Cond.code ({ cls := "LostByState", name := "isOf", desc := "(II)Z" } : MethodName) prog_1_method_58_code (2 : Nat) (Option.some FieldType.boolean)) ∈ zTb := zTb_t 782 (by decide +kernel) (by decide +kernel)
theorem m_783 : (Cond.methodLink "LostByState$Sharing" (29 : Nat) ({ cls := "LostByState$Sharing", name := "withThing", desc := "(III)I" } : MethodName)) ∈ zTb := zTb_t 783 (by decide +kernel) (by decide +kernel)
theorem m_785 : (Cond.instanceMethod ({ cls := "LostByState$Sharing", name := "withThing", desc := "(III)I" } : MethodName)) ∈ zTb := zTb_t 785 (by decide +kernel) (by decide +kernel)
theorem m_786 : (Cond.code ({ cls := "LostByState$Sharing", name := "withThing", desc := "(III)I" } : MethodName) prog_8_method_4_code (4 : Nat) (Option.some FieldType.int)) ∈ zTb := zTb_t 786 (by decide +kernel) (by decide +kernel)
theorem m_787 : (Cond.methodLink "LostByState$Sharing" (32 : Nat) ({ cls := "java/lang/Math", name := "max", desc := "(II)I" } : MethodName)) ∈ zTb := zTb_t 787 (by decide +kernel) (by decide +kernel)
theorem m_788 : (Cond.methodLink "LostByState" (310 : Nat) ({ cls := "LostByState", name := "tellShares", desc := "(II)V" } : MethodName)) ∈ zTb := zTb_t 788 (by decide +kernel) (by decide +kernel)
theorem m_790 : (Cond.instanceMethod ({ cls := "LostByState", name := "tellShares", desc := "(II)V" } : MethodName)) ∈ zTb := zTb_t 790 (by decide +kernel) (by decide +kernel)
theorem m_791 : (Cond.code ({ cls := "LostByState", name := "tellShares", desc := "(II)V" } : MethodName) prog_1_method_72_code (6 : Nat) (Option.none : Option FieldType)) ∈ zTb := zTb_t 791 (by decide +kernel) (by decide +kernel)
theorem m_792 : (Cond.methodLink "LostByState" (457 : Nat) ({ cls := "LostByState$Sharing", name := "leastChoice", desc := "(III)I" } : MethodName)) ∈ zTb := zTb_t 792 (by decide +kernel) (by decide +kernel)
theorem m_793 : (Cond.instanceMethod ({ cls := "LostByState$Sharing", name := "leastChoice", desc := "(III)I" } : MethodName)) ∈ zTb := zTb_t 793 (by decide +kernel) (by decide +kernel)
theorem m_794 : (Cond.selects "LostByState$Sharing" ({ cls := "LostByState$Sharing", name := "leastChoice", desc := "(III)I" } : MethodName) ({ cls := "LostByState$Sharing", name := "leastChoice", desc := "(III)I" } : MethodName)) ∈ zTb := zTb_t 794 (by decide +kernel) (by decide +kernel)
theorem m_795 : (Cond.code ({ cls := "LostByState$Sharing", name := "leastChoice", desc := "(III)I" } : MethodName) prog_8_method_5_code (6 : Nat) (Option.some FieldType.int)) ∈ zTb := zTb_t 795 (by decide +kernel) (by decide +kernel)
theorem m_800 : (Cond.methodLink "LostByState" (319 : Nat) ({ cls := "LostByState$Whereabouts", name := "daysLeft", desc := "(II)I" } : MethodName)) ∈ zTb := zTb_t 800 (by decide +kernel) (by decide +kernel)
theorem m_801 : (Cond.instanceMethod ({ cls := "LostByState$Whereabouts", name := "daysLeft", desc := "(II)I" } : MethodName)) ∈ zTb := zTb_t 801 (by decide +kernel) (by decide +kernel)
theorem m_802 : (Cond.selects "LostByState$Whereabouts" ({ cls := "LostByState$Whereabouts", name := "daysLeft", desc := "(II)I" } : MethodName) ({ cls := "LostByState$Whereabouts", name := "daysLeft", desc := "(II)I" } : MethodName)) ∈ zTb := zTb_t 802 (by decide +kernel) (by decide +kernel)
theorem m_803 : (Cond.code ({ cls := "LostByState$Whereabouts", name := "daysLeft", desc := "(II)I" } : MethodName) prog_12_method_13_code (3 : Nat) (Option.some FieldType.int)) ∈ zTb := zTb_t 803 (by decide +kernel) (by decide +kernel)
theorem m_804 : (Cond.methodLink "LostByState$Whereabouts" (58 : Nat) ({ cls := "java/lang/Math", name := "max", desc := "(II)I" } : MethodName)) ∈ zTb := zTb_t 804 (by decide +kernel) (by decide +kernel)
theorem m_809 : (Cond.methodLink "LostByState" (322 : Nat) ({ cls := "LostByState$Whereabouts", name := "become", desc := "(LLostByState$Whereabouts;)V" } : MethodName)) ∈ zTb := zTb_t 809 (by decide +kernel) (by decide +kernel)
theorem m_814 : (Cond.methodLink "LostByState" (324 : Nat) ({ cls := "LostByState$Stock", name := "worthOf", desc := "(I)I" } : MethodName)) ∈ zTb := zTb_t 814 (by decide +kernel) (by decide +kernel)
theorem m_815 : (Cond.instanceMethod ({ cls := "LostByState$Stock", name := "worthOf", desc := "(I)I" } : MethodName)) ∈ zTb := zTb_t 815 (by decide +kernel) (by decide +kernel)
theorem m_816 : (Cond.selects "LostByState$Stock" ({ cls := "LostByState$Stock", name := "worthOf", desc := "(I)I" } : MethodName) ({ cls := "LostByState$Stock", name := "worthOf", desc := "(I)I" } : MethodName)) ∈ zTb := zTb_t 816 (by decide +kernel) (by decide +kernel)
theorem m_817 : (Cond.code ({ cls := "LostByState$Stock", name := "worthOf", desc := "(I)I" } : MethodName) prog_9_method_6_code (4 : Nat) (Option.some FieldType.int)) ∈ zTb := zTb_t 817 (by decide +kernel) (by decide +kernel)
theorem m_831 : (Cond.methodLink "LostByState" (199 : Nat) ({ cls := "LostByState", name := "isDeed", desc := "(I)Z" } : MethodName)) ∈ zTb := zTb_t 831 (by decide +kernel) (by decide +kernel)
theorem m_833 : (Cond.instanceMethod ({ cls := "LostByState", name := "isDeed", desc := "(I)Z" } : MethodName)) ∈ zTb := zTb_t 833 (by decide +kernel) (by decide +kernel)
theorem m_834 : (Cond.code ({ cls := "LostByState", name := "isDeed", desc := "(I)Z" } : MethodName) prog_1_method_52_code (2 : Nat) (Option.some FieldType.boolean)) ∈ zTb := zTb_t 834 (by decide +kernel) (by decide +kernel)
theorem m_835 : (Cond.methodLink "LostByState" (327 : Nat) ({ cls := "LostByState$Whereabouts", name := "lost", desc := "()I" } : MethodName)) ∈ zTb := zTb_t 835 (by decide +kernel) (by decide +kernel)
theorem m_840 : (Cond.methodLink "LostByState" (331 : Nat) ({ cls := "LostByState$Hearsay", name := "hear", desc := "(IZ)V" } : MethodName)) ∈ zTb := zTb_t 840 (by decide +kernel) (by decide +kernel)
theorem m_841 : (Cond.instanceMethod ({ cls := "LostByState$Hearsay", name := "hear", desc := "(IZ)V" } : MethodName)) ∈ zTb := zTb_t 841 (by decide +kernel) (by decide +kernel)
theorem m_842 : (Cond.selects "LostByState$Hearsay" ({ cls := "LostByState$Hearsay", name := "hear", desc := "(IZ)V" } : MethodName) ({ cls := "LostByState$Hearsay", name := "hear", desc := "(IZ)V" } : MethodName)) ∈ zTb := zTb_t 842 (by decide +kernel) (by decide +kernel)
theorem m_843 : (Cond.code ({ cls := "LostByState$Hearsay", name := "hear", desc := "(IZ)V" } : MethodName) prog_3_method_2_code (3 : Nat) (Option.none : Option FieldType)) ∈ zTb := zTb_t 843 (by decide +kernel) (by decide +kernel)
theorem m_848 : (Cond.methodLink "LostByState" (335 : Nat) ({ cls := "LostByState$Hearsay", name := "clear", desc := "()V" } : MethodName)) ∈ zTb := zTb_t 848 (by decide +kernel) (by decide +kernel)
theorem m_849 : (Cond.instanceMethod ({ cls := "LostByState$Hearsay", name := "clear", desc := "()V" } : MethodName)) ∈ zTb := zTb_t 849 (by decide +kernel) (by decide +kernel)
theorem m_850 : (Cond.selects "LostByState$Hearsay" ({ cls := "LostByState$Hearsay", name := "clear", desc := "()V" } : MethodName) ({ cls := "LostByState$Hearsay", name := "clear", desc := "()V" } : MethodName)) ∈ zTb := zTb_t 850 (by decide +kernel) (by decide +kernel)
theorem m_851 : (Cond.code ({ cls := "LostByState$Hearsay", name := "clear", desc := "()V" } : MethodName) prog_3_method_3_code (1 : Nat) (Option.none : Option FieldType)) ∈ zTb := zTb_t 851 (by decide +kernel) (by decide +kernel)
theorem m_856 : (Cond.methodLink "LostByState" (336 : Nat) ({ cls := "LostByState", name := "fittingThings", desc := "()I" } : MethodName)) ∈ zTb := zTb_t 856 (by decide +kernel) (by decide +kernel)
theorem m_858 : (Cond.instanceMethod ({ cls := "LostByState", name := "fittingThings", desc := "()I" } : MethodName)) ∈ zTb := zTb_t 858 (by decide +kernel) (by decide +kernel)
theorem m_859 : (Cond.code ({ cls := "LostByState", name := "fittingThings", desc := "()I" } : MethodName) prog_1_method_73_code (3 : Nat) (Option.some FieldType.int)) ∈ zTb := zTb_t 859 (by decide +kernel) (by decide +kernel)
theorem m_860 : (Cond.methodLink "LostByState" (460 : Nat) ({ cls := "LostByState$Hearsay", name := "isTrueOf", desc := "(I)Z" } : MethodName)) ∈ zTb := zTb_t 860 (by decide +kernel) (by decide +kernel)
theorem m_861 : (Cond.instanceMethod ({ cls := "LostByState$Hearsay", name := "isTrueOf", desc := "(I)Z" } : MethodName)) ∈ zTb := zTb_t 861 (by decide +kernel) (by decide +kernel)
theorem m_862 : (Cond.selects "LostByState$Hearsay" ({ cls := "LostByState$Hearsay", name := "isTrueOf", desc := "(I)Z" } : MethodName) ({ cls := "LostByState$Hearsay", name := "isTrueOf", desc := "(I)Z" } : MethodName)) ∈ zTb := zTb_t 862 (by decide +kernel) (by decide +kernel)
theorem m_863 : (Cond.code ({ cls := "LostByState$Hearsay", name := "isTrueOf", desc := "(I)Z" } : MethodName) prog_3_method_4_code (2 : Nat) (Option.some FieldType.boolean)) ∈ zTb := zTb_t 863 (by decide +kernel) (by decide +kernel)
theorem m_864 : (Cond.methodLink "LostByState" (339 : Nat) ({ cls := "LostByState", name := "isOf", desc := "(II)Z" } : MethodName)) ∈ zTb := zTb_t 864 (by decide +kernel) (by decide +kernel)
theorem m_869 : (Cond.methodLink "LostByState" (343 : Nat) ({ cls := "LostByState$Stock", name := "thingsMarked", desc := "(I)I" } : MethodName)) ∈ zTb := zTb_t 869 (by decide +kernel) (by decide +kernel)
theorem m_870 : (Cond.instanceMethod ({ cls := "LostByState$Stock", name := "thingsMarked", desc := "(I)I" } : MethodName)) ∈ zTb := zTb_t 870 (by decide +kernel) (by decide +kernel)
theorem m_871 : (Cond.selects "LostByState$Stock" ({ cls := "LostByState$Stock", name := "thingsMarked", desc := "(I)I" } : MethodName) ({ cls := "LostByState$Stock", name := "thingsMarked", desc := "(I)I" } : MethodName)) ∈ zTb := zTb_t 871 (by decide +kernel) (by decide +kernel)
theorem m_872 : (Cond.code ({ cls := "LostByState$Stock", name := "thingsMarked", desc := "(I)I" } : MethodName) prog_9_method_7_code (4 : Nat) (Option.some FieldType.int)) ∈ zTb := zTb_t 872 (by decide +kernel) (by decide +kernel)
theorem m_877 : (Cond.methodLink "LostByState" (351 : Nat) ({ cls := "LostByState$Stock", name := "allDifferIn", desc := "(I)Z" } : MethodName)) ∈ zTb := zTb_t 877 (by decide +kernel) (by decide +kernel)
theorem m_878 : (Cond.instanceMethod ({ cls := "LostByState$Stock", name := "allDifferIn", desc := "(I)Z" } : MethodName)) ∈ zTb := zTb_t 878 (by decide +kernel) (by decide +kernel)
theorem m_879 : (Cond.selects "LostByState$Stock" ({ cls := "LostByState$Stock", name := "allDifferIn", desc := "(I)Z" } : MethodName) ({ cls := "LostByState$Stock", name := "allDifferIn", desc := "(I)Z" } : MethodName)) ∈ zTb := zTb_t 879 (by decide +kernel) (by decide +kernel)
theorem m_880 : (Cond.code ({ cls := "LostByState$Stock", name := "allDifferIn", desc := "(I)Z" } : MethodName) prog_9_method_8_code (4 : Nat) (Option.some FieldType.boolean)) ∈ zTb := zTb_t 880 (by decide +kernel) (by decide +kernel)
theorem m_889 : (Cond.methodLink "LostByState" (354 : Nat) ({ cls := "LostByState$Text", name := "readDigits", desc := "([I)I" } : MethodName)) ∈ zTb := zTb_t 889 (by decide +kernel) (by decide +kernel)
theorem m_890 : (Cond.instanceMethod ({ cls := "LostByState$Text", name := "readDigits", desc := "([I)I" } : MethodName)) ∈ zTb := zTb_t 890 (by decide +kernel) (by decide +kernel)
theorem m_891 : (Cond.selects "LostByState$Text" ({ cls := "LostByState$Text", name := "readDigits", desc := "([I)I" } : MethodName) ({ cls := "LostByState$Text", name := "readDigits", desc := "([I)I" } : MethodName)) ∈ zTb := zTb_t 891 (by decide +kernel) (by decide +kernel)
theorem m_892 : (Cond.code ({ cls := "LostByState$Text", name := "readDigits", desc := "([I)I" } : MethodName) prog_11_method_9_code (3 : Nat) (Option.some FieldType.int)) ∈ zTb := zTb_t 892 (by decide +kernel) (by decide +kernel)
theorem m_893 : (Cond.methodLink "LostByState" (358 : Nat) ({ cls := "LostByState", name := "sumOfDigits", desc := "()J" } : MethodName)) ∈ zTb := zTb_t 893 (by decide +kernel) (by decide +kernel)
theorem m_895 : (Cond.instanceMethod ({ cls := "LostByState", name := "sumOfDigits", desc := "()J" } : MethodName)) ∈ zTb := zTb_t 895 (by decide +kernel) (by decide +kernel)
theorem m_896 : (Cond.code ({ cls := "LostByState", name := "sumOfDigits", desc := "()J" } : MethodName) prog_1_method_74_code (4 : Nat) (Option.some FieldType.long)) ∈ zTb := zTb_t 896 (by decide +kernel) (by decide +kernel)
theorem m_897 : (Cond.methodLink "LostByState" (362 : Nat) ({ cls := "LostByState", name := "tellLooks", desc := "(IJ)V" } : MethodName)) ∈ zTb := zTb_t 897 (by decide +kernel) (by decide +kernel)
theorem m_899 : (Cond.instanceMethod ({ cls := "LostByState", name := "tellLooks", desc := "(IJ)V" } : MethodName)) ∈ zTb := zTb_t 899 (by decide +kernel) (by decide +kernel)
theorem m_900 : (Cond.code ({ cls := "LostByState", name := "tellLooks", desc := "(IJ)V" } : MethodName) prog_1_method_75_code (8 : Nat) (Option.none : Option FieldType)) ∈ zTb := zTb_t 900 (by decide +kernel) (by decide +kernel)
theorem m_901 : (Cond.methodLink "LostByState" (372 : Nat) ({ cls := "LostByState$Row", name := "tellFraction", desc := "(JJ)V" } : MethodName)) ∈ zTb := zTb_t 901 (by decide +kernel) (by decide +kernel)
theorem m_902 : (Cond.instanceMethod ({ cls := "LostByState$Row", name := "tellFraction", desc := "(JJ)V" } : MethodName)) ∈ zTb := zTb_t 902 (by decide +kernel) (by decide +kernel)
theorem m_903 : (Cond.selects "LostByState$Row" ({ cls := "LostByState$Row", name := "tellFraction", desc := "(JJ)V" } : MethodName) ({ cls := "LostByState$Row", name := "tellFraction", desc := "(JJ)V" } : MethodName)) ∈ zTb := zTb_t 903 (by decide +kernel) (by decide +kernel)
theorem m_904 : (Cond.code ({ cls := "LostByState$Row", name := "tellFraction", desc := "(JJ)V" } : MethodName) prog_5_method_4_code (7 : Nat) (Option.none : Option FieldType)) ∈ zTb := zTb_t 904 (by decide +kernel) (by decide +kernel)
theorem m_905 : (Cond.methodLink "LostByState$Row" (17 : Nat) ({ cls := "LostByState$Row", name := "commonDivisor", desc := "(JJ)J" } : MethodName)) ∈ zTb := zTb_t 905 (by decide +kernel) (by decide +kernel)
theorem m_906 : (Cond.static ({ cls := "LostByState$Row", name := "commonDivisor", desc := "(JJ)J" } : MethodName)) ∈ zTb := zTb_t 906 (by decide +kernel) (by decide +kernel)
theorem m_907 : (Cond.code ({ cls := "LostByState$Row", name := "commonDivisor", desc := "(JJ)J" } : MethodName) prog_5_method_6_code (11 : Nat) (Option.some FieldType.long)) ∈ zTb := zTb_t 907 (by decide +kernel) (by decide +kernel)
theorem m_908 : (Cond.methodLink "LostByState$Row" (21 : Nat) ({ cls := "LostByState$Row", name := "tell", desc := "(J)V" } : MethodName)) ∈ zTb := zTb_t 908 (by decide +kernel) (by decide +kernel)
theorem m_909 : (Cond.methodLink "LostByState" (463 : Nat) ({ cls := "LostByState", name := "likeliestPlace", desc := "()I" } : MethodName)) ∈ zTb := zTb_t 909 (by decide +kernel) (by decide +kernel)
theorem m_911 : (Cond.instanceMethod ({ cls := "LostByState", name := "likeliestPlace", desc := "()I" } : MethodName)) ∈ zTb := zTb_t 911 (by decide +kernel) (by decide +kernel)
theorem m_912 : (Cond.code ({ cls := "LostByState", name := "likeliestPlace", desc := "()I" } : MethodName) prog_1_method_76_code (3 : Nat) (Option.some FieldType.int)) ∈ zTb := zTb_t 912 (by decide +kernel) (by decide +kernel)
theorem m_913 : (Cond.methodLink "LostByState" (466 : Nat) ({ cls := "LostByState$Row", name := "putFraction", desc := "(IJJ)V" } : MethodName)) ∈ zTb := zTb_t 913 (by decide +kernel) (by decide +kernel)
theorem m_914 : (Cond.instanceMethod ({ cls := "LostByState$Row", name := "putFraction", desc := "(IJJ)V" } : MethodName)) ∈ zTb := zTb_t 914 (by decide +kernel) (by decide +kernel)
theorem m_915 : (Cond.selects "LostByState$Row" ({ cls := "LostByState$Row", name := "putFraction", desc := "(IJJ)V" } : MethodName) ({ cls := "LostByState$Row", name := "putFraction", desc := "(IJJ)V" } : MethodName)) ∈ zTb := zTb_t 915 (by decide +kernel) (by decide +kernel)
theorem m_916 : (Cond.code ({ cls := "LostByState$Row", name := "putFraction", desc := "(IJJ)V" } : MethodName) prog_5_method_5_code (7 : Nat) (Option.none : Option FieldType)) ∈ zTb := zTb_t 916 (by decide +kernel) (by decide +kernel)
theorem m_917 : (Cond.methodLink "LostByState$Row" (25 : Nat) ({ cls := "LostByState$Row", name := "tellFraction", desc := "(JJ)V" } : MethodName)) ∈ zTb := zTb_t 917 (by decide +kernel) (by decide +kernel)
theorem m_922 : (Cond.methodLink "LostByState" (369 : Nat) ({ cls := "java/lang/Math", name := "floorMod", desc := "(II)I" } : MethodName)) ∈ zTb := zTb_t 922 (by decide +kernel) (by decide +kernel)
theorem m_923 : (Cond.static ({ cls := "java/lang/Math", name := "floorMod", desc := "(II)I" } : MethodName)) ∈ zTb := zTb_t 923 (by decide +kernel) (by decide +kernel)
theorem m_924 : (Cond.code ({ cls := "java/lang/Math", name := "floorMod", desc := "(II)I" } : MethodName) prog_21_method_50_code (3 : Nat) (Option.some FieldType.int)) ∈ zTb := zTb_t 924 (by decide +kernel) (by decide +kernel)
theorem m_929 : (Cond.methodLink "LostByState" (376 : Nat) ({ cls := "LostByState$Stock", name := "allNeeds", desc := "()I" } : MethodName)) ∈ zTb := zTb_t 929 (by decide +kernel) (by decide +kernel)
theorem m_930 : (Cond.instanceMethod ({ cls := "LostByState$Stock", name := "allNeeds", desc := "()I" } : MethodName)) ∈ zTb := zTb_t 930 (by decide +kernel) (by decide +kernel)
theorem m_931 : (Cond.selects "LostByState$Stock" ({ cls := "LostByState$Stock", name := "allNeeds", desc := "()I" } : MethodName) ({ cls := "LostByState$Stock", name := "allNeeds", desc := "()I" } : MethodName)) ∈ zTb := zTb_t 931 (by decide +kernel) (by decide +kernel)
theorem m_932 : (Cond.code ({ cls := "LostByState$Stock", name := "allNeeds", desc := "()I" } : MethodName) prog_9_method_5_code (3 : Nat) (Option.some FieldType.int)) ∈ zTb := zTb_t 932 (by decide +kernel) (by decide +kernel)
theorem m_941 : (Cond.methodLink "LostByState" (194 : Nat) ({ cls := "LostByState$Stock", name := "deedsThatNeed", desc := "(I)I" } : MethodName)) ∈ zTb := zTb_t 941 (by decide +kernel) (by decide +kernel)
theorem m_942 : (Cond.instanceMethod ({ cls := "LostByState$Stock", name := "deedsThatNeed", desc := "(I)I" } : MethodName)) ∈ zTb := zTb_t 942 (by decide +kernel) (by decide +kernel)
theorem m_943 : (Cond.selects "LostByState$Stock" ({ cls := "LostByState$Stock", name := "deedsThatNeed", desc := "(I)I" } : MethodName) ({ cls := "LostByState$Stock", name := "deedsThatNeed", desc := "(I)I" } : MethodName)) ∈ zTb := zTb_t 943 (by decide +kernel) (by decide +kernel)
theorem m_944 : (Cond.code ({ cls := "LostByState$Stock", name := "deedsThatNeed", desc := "(I)I" } : MethodName) prog_9_method_3_code (4 : Nat) (Option.some FieldType.int)) ∈ zTb := zTb_t 944 (by decide +kernel) (by decide +kernel)
theorem m_949 : (Cond.constantLong "LostByState" (379 : Nat) (840 : Int64)) ∈ zTb := zTb_t 949 (by decide +kernel) (by decide +kernel)
theorem m_958 : (Cond.methodLink "LostByState" (381 : Nat) ({ cls := "LostByState", name := "power", desc := "(JI)J" } : MethodName)) ∈ zTb := zTb_t 958 (by decide +kernel) (by decide +kernel)
theorem m_959 : (Cond.static ({ cls := "LostByState", name := "power", desc := "(JI)J" } : MethodName)) ∈ zTb := zTb_t 959 (by decide +kernel) (by decide +kernel)
theorem m_960 : (Cond.code ({ cls := "LostByState", name := "power", desc := "(JI)J" } : MethodName) prog_1_method_61_code (6 : Nat) (Option.some FieldType.long)) ∈ zTb := zTb_t 960 (by decide +kernel) (by decide +kernel)
theorem m_961 : (Cond.constantLong "LostByState" (385 : Nat) (10 : Int64)) ∈ zTb := zTb_t 961 (by decide +kernel) (by decide +kernel)
theorem m_970 : (Cond.methodLink "LostByState" (387 : Nat) ({ cls := "LostByState", name := "isBestWait", desc := "(IIII)Z" } : MethodName)) ∈ zTb := zTb_t 970 (by decide +kernel) (by decide +kernel)
theorem m_971 : (Cond.static ({ cls := "LostByState", name := "isBestWait", desc := "(IIII)Z" } : MethodName)) ∈ zTb := zTb_t 971 (by decide +kernel) (by decide +kernel)
theorem m_972 : (Cond.code ({ cls := "LostByState", name := "isBestWait", desc := "(IIII)Z" } : MethodName) prog_1_method_78_code (6 : Nat) (Option.some FieldType.boolean)) ∈ zTb := zTb_t 972 (by decide +kernel) (by decide +kernel)
theorem m_973 : (Cond.methodLink "LostByState" (470 : Nat) ({ cls := "LostByState", name := "restsGain", desc := "(IIII)I" } : MethodName)) ∈ zTb := zTb_t 973 (by decide +kernel) (by decide +kernel)
theorem m_974 : (Cond.static ({ cls := "LostByState", name := "restsGain", desc := "(IIII)I" } : MethodName)) ∈ zTb := zTb_t 974 (by decide +kernel) (by decide +kernel)
theorem m_975 : (Cond.code ({ cls := "LostByState", name := "restsGain", desc := "(IIII)I" } : MethodName) prog_1_method_77_code (5 : Nat) (Option.some FieldType.int)) ∈ zTb := zTb_t 975 (by decide +kernel) (by decide +kernel)
theorem m_984 : (Cond.methodLink "LostByState" (391 : Nat) ({ cls := "LostByState", name := "drawnActGets", desc := "()Z" } : MethodName)) ∈ zTb := zTb_t 984 (by decide +kernel) (by decide +kernel)
theorem m_986 : (Cond.instanceMethod ({ cls := "LostByState", name := "drawnActGets", desc := "()Z" } : MethodName)) ∈ zTb := zTb_t 986 (by decide +kernel) (by decide +kernel)
theorem m_987 : (Cond.code ({ cls := "LostByState", name := "drawnActGets", desc := "()Z" } : MethodName) prog_1_method_80_code (4 : Nat) (Option.some FieldType.boolean)) ∈ zTb := zTb_t 987 (by decide +kernel) (by decide +kernel)
theorem m_988 : (Cond.methodLink "LostByState" (475 : Nat) ({ cls := "LostByState", name := "draw", desc := "(I)I" } : MethodName)) ∈ zTb := zTb_t 988 (by decide +kernel) (by decide +kernel)
theorem m_990 : (Cond.instanceMethod ({ cls := "LostByState", name := "draw", desc := "(I)I" } : MethodName)) ∈ zTb := zTb_t 990 (by decide +kernel) (by decide +kernel)
theorem m_991 : (Cond.code ({ cls := "LostByState", name := "draw", desc := "(I)I" } : MethodName) prog_1_method_79_code (2 : Nat) (Option.some FieldType.int)) ∈ zTb := zTb_t 991 (by decide +kernel) (by decide +kernel)
theorem m_992 : (Cond.constant "LostByState" (474 : Nat) (1103515245 : Int32)) ∈ zTb := zTb_t 992 (by decide +kernel) (by decide +kernel)
theorem m_1102 : (Cond.fieldLink "LostByStateModel" (9 : Nat) "LostByStateModel" "now" "[I") ∈ zTb := zTb_t 1102 (by decide +kernel) (by decide +kernel)
theorem m_1103 : (Cond.fieldLink "LostByStateModel" (92 : Nat) "LostByStateModel" "things" "I") ∈ zTb := zTb_t 1103 (by decide +kernel) (by decide +kernel)
theorem m_1104 : (Cond.fieldLink "LostByStateModel" (99 : Nat) "LostByStateModel" "deeds" "I") ∈ zTb := zTb_t 1104 (by decide +kernel) (by decide +kernel)
theorem m_1105 : (Cond.fieldLink "LostByStateModel" (13 : Nat) "LostByStateModel" "term" "I") ∈ zTb := zTb_t 1105 (by decide +kernel) (by decide +kernel)
theorem m_1106 : (Cond.fieldLink "LostByStateModel" (17 : Nat) "LostByStateModel" "need0" "I") ∈ zTb := zTb_t 1106 (by decide +kernel) (by decide +kernel)
theorem m_1107 : (Cond.fieldLink "LostByStateModel" (20 : Nat) "LostByStateModel" "marks" "[I") ∈ zTb := zTb_t 1107 (by decide +kernel) (by decide +kernel)
theorem m_1108 : (Cond.fieldLink "LostByStateModel" (23 : Nat) "LostByStateModel" "worth" "[I") ∈ zTb := zTb_t 1108 (by decide +kernel) (by decide +kernel)
theorem m_1109 : (Cond.fieldLink "LostByStateModel" (26 : Nat) "LostByStateModel" "needs" "[I") ∈ zTb := zTb_t 1109 (by decide +kernel) (by decide +kernel)
theorem m_1110 : (Cond.fieldLink "LostByStateModel" (29 : Nat) "LostByStateModel" "text" "[B") ∈ zTb := zTb_t 1110 (by decide +kernel) (by decide +kernel)
theorem m_1111 : (Cond.fieldLink "LostByStateModel" (102 : Nat) "LostByStateModel" "typed" "I") ∈ zTb := zTb_t 1111 (by decide +kernel) (by decide +kernel)
theorem m_1112 : (Cond.fieldLink "LostByStateModel" (33 : Nat) "LostByStateModel" "row" "[J") ∈ zTb := zTb_t 1112 (by decide +kernel) (by decide +kernel)
theorem m_1113 : (Cond.fieldLink "LostByStateModel" (89 : Nat) "LostByStateModel" "rowMany" "I") ∈ zTb := zTb_t 1113 (by decide +kernel) (by decide +kernel)
theorem m_1114 : (Cond.fieldLink "LostByStateModel" (86 : Nat) "LostByStateModel" "thrown" "I") ∈ zTb := zTb_t 1114 (by decide +kernel) (by decide +kernel)
theorem m_1115 : (Cond.fieldLink "LostByStateModel" (105 : Nat) "LostByStateModel" "read" "[B") ∈ zTb := zTb_t 1115 (by decide +kernel) (by decide +kernel)
theorem m_1116 : (Cond.fieldLink "LostByStateModel" (108 : Nat) "LostByStateModel" "length" "I") ∈ zTb := zTb_t 1116 (by decide +kernel) (by decide +kernel)
theorem m_1117 : (Cond.fieldLink "LostByStateModel" (111 : Nat) "LostByStateModel" "top" "I") ∈ zTb := zTb_t 1117 (by decide +kernel) (by decide +kernel)
theorem m_1118 : (Cond.fieldLink "LostByStateModel" (114 : Nat) "LostByStateModel" "at" "I") ∈ zTb := zTb_t 1118 (by decide +kernel) (by decide +kernel)
theorem m_1119 : (Cond.fieldLink "LostByStateModel" (117 : Nat) "LostByStateModel" "wrong" "I") ∈ zTb := zTb_t 1119 (by decide +kernel) (by decide +kernel)
theorem m_1120 : (Cond.fieldLink "LostByStateModel" (37 : Nat) "LostByStateModel" "comes" "[I") ∈ zTb := zTb_t 1120 (by decide +kernel) (by decide +kernel)
theorem m_1121 : (Cond.fieldLink "LostByStateModel" (40 : Nat) "LostByStateModel" "rule" "[B") ∈ zTb := zTb_t 1121 (by decide +kernel) (by decide +kernel)
theorem m_1122 : (Cond.fieldLink "LostByStateModel" (43 : Nat) "LostByStateModel" "otherRule" "[B") ∈ zTb := zTb_t 1122 (by decide +kernel) (by decide +kernel)
theorem m_1123 : (Cond.fieldLink "LostByStateModel" (193 : Nat) "LostByStateModel" "ruleSize" "I") ∈ zTb := zTb_t 1123 (by decide +kernel) (by decide +kernel)
theorem m_1124 : (Cond.fieldLink "LostByStateModel" (186 : Nat) "LostByStateModel" "isAsked" "Z") ∈ zTb := zTb_t 1124 (by decide +kernel) (by decide +kernel)
theorem m_1125 : (Cond.fieldLink "LostByStateModel" (46 : Nat) "LostByStateModel" "asked" "[I") ∈ zTb := zTb_t 1125 (by decide +kernel) (by decide +kernel)
theorem m_1126 : (Cond.fieldLink "LostByStateModel" (49 : Nat) "LostByStateModel" "undos" "[I") ∈ zTb := zTb_t 1126 (by decide +kernel) (by decide +kernel)
theorem m_1127 : (Cond.fieldLink "LostByStateModel" (144 : Nat) "LostByStateModel" "undoMany" "I") ∈ zTb := zTb_t 1127 (by decide +kernel) (by decide +kernel)
theorem m_1128 : (Cond.fieldLink "LostByStateModel" (52 : Nat) "LostByStateModel" "aside" "[I") ∈ zTb := zTb_t 1128 (by decide +kernel) (by decide +kernel)
theorem m_1129 : (Cond.fieldLink "LostByStateModel" (55 : Nat) "LostByStateModel" "then" "[I") ∈ zTb := zTb_t 1129 (by decide +kernel) (by decide +kernel)
theorem m_1130 : (Cond.fieldLink "LostByStateModel" (58 : Nat) "LostByStateModel" "acts" "[I") ∈ zTb := zTb_t 1130 (by decide +kernel) (by decide +kernel)
theorem m_1131 : (Cond.fieldLink "LostByStateModel" (61 : Nat) "LostByStateModel" "given" "[I") ∈ zTb := zTb_t 1131 (by decide +kernel) (by decide +kernel)
theorem m_1132 : (Cond.fieldLink "LostByStateModel" (64 : Nat) "LostByStateModel" "saidOf" "[I") ∈ zTb := zTb_t 1132 (by decide +kernel) (by decide +kernel)
theorem m_1133 : (Cond.fieldLink "LostByStateModel" (312 : Nat) "LostByStateModel" "saidBits" "I") ∈ zTb := zTb_t 1133 (by decide +kernel) (by decide +kernel)
theorem m_1134 : (Cond.fieldLink "LostByStateModel" (309 : Nat) "LostByStateModel" "saidMany" "I") ∈ zTb := zTb_t 1134 (by decide +kernel) (by decide +kernel)
theorem m_1135 : (Cond.fieldLink "LostByStateModel" (67 : Nat) "LostByStateModel" "left" "[J") ∈ zTb := zTb_t 1135 (by decide +kernel) (by decide +kernel)
theorem m_1136 : (Cond.fieldLink "LostByStateModel" (70 : Nat) "LostByStateModel" "looked" "[I") ∈ zTb := zTb_t 1136 (by decide +kernel) (by decide +kernel)
theorem m_1137 : (Cond.fieldLink "LostByStateModel" (73 : Nat) "LostByStateModel" "come" "[J") ∈ zTb := zTb_t 1137 (by decide +kernel) (by decide +kernel)
theorem m_1138 : (Cond.fieldLink "LostByStateModel" (356 : Nat) "LostByStateModel" "drawn" "I") ∈ zTb := zTb_t 1138 (by decide +kernel) (by decide +kernel)
theorem m_1139 : (Cond.fieldLink "LostByStateModel" (147 : Nat) "LostByStateModel" "came" "I") ∈ zTb := zTb_t 1139 (by decide +kernel) (by decide +kernel)
theorem m_1140 : (Cond.fieldLink "LostByStateModel" (76 : Nat) "LostByStateModel" "kept" "[I") ∈ zTb := zTb_t 1140 (by decide +kernel) (by decide +kernel)
theorem m_1141 : (Cond.fieldLink "LostByStateModel" (79 : Nat) "LostByStateModel" "isKept" "[Z") ∈ zTb := zTb_t 1141 (by decide +kernel) (by decide +kernel)
theorem m_1142 : (Cond.fieldLink "LostByStateModel" (83 : Nat) "LostByStateModel" "keptCame" "[I") ∈ zTb := zTb_t 1142 (by decide +kernel) (by decide +kernel)
theorem m_1238 : (Cond.methodLink "LostByStateModel" (95 : Nat) ({ cls := "LostByStateModel", name := "in", desc := "(III)Z" } : MethodName)) ∈ zTb := zTb_t 1238 (by decide +kernel) (by decide +kernel)
theorem m_1239 : (Cond.static ({ cls := "LostByStateModel", name := "in", desc := "(III)Z" } : MethodName)) ∈ zTb := zTb_t 1239 (by decide +kernel) (by decide +kernel)
theorem m_1240 : (Cond.code ({ cls := "LostByStateModel", name := "in", desc := "(III)Z" } : MethodName) prog_14_method_3_code (3 : Nat) (Option.some FieldType.boolean)) ∈ zTb := zTb_t 1240 (by decide +kernel) (by decide +kernel)
theorem m_1245 : (Cond.methodLink "LostByStateModel" (150 : Nat) ({ cls := "LostByStateModel", name := "beginText", desc := "(I)V" } : MethodName)) ∈ zTb := zTb_t 1245 (by decide +kernel) (by decide +kernel)
theorem m_1247 : (Cond.instanceMethod ({ cls := "LostByStateModel", name := "beginText", desc := "(I)V" } : MethodName)) ∈ zTb := zTb_t 1247 (by decide +kernel) (by decide +kernel)
theorem m_1248 : (Cond.code ({ cls := "LostByStateModel", name := "beginText", desc := "(I)V" } : MethodName) prog_14_method_14_code (2 : Nat) (Option.none : Option FieldType)) ∈ zTb := zTb_t 1248 (by decide +kernel) (by decide +kernel)
theorem m_1249 : (Cond.methodLink "LostByStateModel" (120 : Nat) ({ cls := "LostByStateModel", name := "begin", desc := "([BII)V" } : MethodName)) ∈ zTb := zTb_t 1249 (by decide +kernel) (by decide +kernel)
theorem m_1251 : (Cond.instanceMethod ({ cls := "LostByStateModel", name := "begin", desc := "([BII)V" } : MethodName)) ∈ zTb := zTb_t 1251 (by decide +kernel) (by decide +kernel)
theorem m_1252 : (Cond.code ({ cls := "LostByStateModel", name := "begin", desc := "([BII)V" } : MethodName) prog_14_method_13_code (4 : Nat) (Option.none : Option FieldType)) ∈ zTb := zTb_t 1252 (by decide +kernel) (by decide +kernel)
theorem m_1253 : (Cond.methodLink "LostByStateModel" (124 : Nat) ({ cls := "LostByStateModel", name := "fine", desc := "()Z" } : MethodName)) ∈ zTb := zTb_t 1253 (by decide +kernel) (by decide +kernel)
theorem m_1255 : (Cond.instanceMethod ({ cls := "LostByStateModel", name := "fine", desc := "()Z" } : MethodName)) ∈ zTb := zTb_t 1255 (by decide +kernel) (by decide +kernel)
theorem m_1256 : (Cond.code ({ cls := "LostByStateModel", name := "fine", desc := "()Z" } : MethodName) prog_14_method_16_code (1 : Nat) (Option.some FieldType.boolean)) ∈ zTb := zTb_t 1256 (by decide +kernel) (by decide +kernel)
theorem m_1257 : (Cond.methodLink "LostByStateModel" (136 : Nat) ({ cls := "LostByStateModel", name := "fault", desc := "(I)V" } : MethodName)) ∈ zTb := zTb_t 1257 (by decide +kernel) (by decide +kernel)
theorem m_1259 : (Cond.instanceMethod ({ cls := "LostByStateModel", name := "fault", desc := "(I)V" } : MethodName)) ∈ zTb := zTb_t 1259 (by decide +kernel) (by decide +kernel)
theorem m_1260 : (Cond.code ({ cls := "LostByStateModel", name := "fault", desc := "(I)V" } : MethodName) prog_14_method_17_code (2 : Nat) (Option.none : Option FieldType)) ∈ zTb := zTb_t 1260 (by decide +kernel) (by decide +kernel)
theorem m_1261 : (Cond.methodLink "LostByStateModel" (140 : Nat) ({ cls := "LostByStateModel", name := "oneOf", desc := "(CI)I" } : MethodName)) ∈ zTb := zTb_t 1261 (by decide +kernel) (by decide +kernel)
theorem m_1263 : (Cond.instanceMethod ({ cls := "LostByStateModel", name := "oneOf", desc := "(CI)I" } : MethodName)) ∈ zTb := zTb_t 1263 (by decide +kernel) (by decide +kernel)
theorem m_1264 : (Cond.code ({ cls := "LostByStateModel", name := "oneOf", desc := "(CI)I" } : MethodName) prog_14_method_20_code (3 : Nat) (Option.some FieldType.int)) ∈ zTb := zTb_t 1264 (by decide +kernel) (by decide +kernel)
theorem m_1265 : (Cond.methodLink "LostByStateModel" (128 : Nat) ({ cls := "LostByStateModel", name := "here", desc := "()I" } : MethodName)) ∈ zTb := zTb_t 1265 (by decide +kernel) (by decide +kernel)
theorem m_1267 : (Cond.instanceMethod ({ cls := "LostByStateModel", name := "here", desc := "()I" } : MethodName)) ∈ zTb := zTb_t 1267 (by decide +kernel) (by decide +kernel)
theorem m_1268 : (Cond.code ({ cls := "LostByStateModel", name := "here", desc := "()I" } : MethodName) prog_14_method_15_code (1 : Nat) (Option.some FieldType.int)) ∈ zTb := zTb_t 1268 (by decide +kernel) (by decide +kernel)
theorem m_1269 : (Cond.methodLink "LostByStateModel" (153 : Nat) ({ cls := "LostByStateModel", name := "rising", desc := "(II)I" } : MethodName)) ∈ zTb := zTb_t 1269 (by decide +kernel) (by decide +kernel)
theorem m_1271 : (Cond.instanceMethod ({ cls := "LostByStateModel", name := "rising", desc := "(II)I" } : MethodName)) ∈ zTb := zTb_t 1271 (by decide +kernel) (by decide +kernel)
theorem m_1272 : (Cond.code ({ cls := "LostByStateModel", name := "rising", desc := "(II)I" } : MethodName) prog_14_method_23_code (6 : Nat) (Option.some FieldType.int)) ∈ zTb := zTb_t 1272 (by decide +kernel) (by decide +kernel)
theorem m_1273 : (Cond.methodLink "LostByStateModel" (132 : Nat) ({ cls := "LostByStateModel", name := "passes", desc := "(C)Z" } : MethodName)) ∈ zTb := zTb_t 1273 (by decide +kernel) (by decide +kernel)
theorem m_1275 : (Cond.instanceMethod ({ cls := "LostByStateModel", name := "passes", desc := "(C)Z" } : MethodName)) ∈ zTb := zTb_t 1275 (by decide +kernel) (by decide +kernel)
theorem m_1276 : (Cond.code ({ cls := "LostByStateModel", name := "passes", desc := "(C)Z" } : MethodName) prog_14_method_18_code (2 : Nat) (Option.some FieldType.boolean)) ∈ zTb := zTb_t 1276 (by decide +kernel) (by decide +kernel)
theorem m_1277 : (Cond.methodLink "LostByStateModel" (157 : Nat) ({ cls := "LostByStateModel", name := "wasRight", desc := "()Z" } : MethodName)) ∈ zTb := zTb_t 1277 (by decide +kernel) (by decide +kernel)
theorem m_1279 : (Cond.instanceMethod ({ cls := "LostByStateModel", name := "wasRight", desc := "()Z" } : MethodName)) ∈ zTb := zTb_t 1279 (by decide +kernel) (by decide +kernel)
theorem m_1280 : (Cond.code ({ cls := "LostByStateModel", name := "wasRight", desc := "()Z" } : MethodName) prog_14_method_22_code (1 : Nat) (Option.some FieldType.boolean)) ∈ zTb := zTb_t 1280 (by decide +kernel) (by decide +kernel)
theorem m_1281 : (Cond.methodLink "LostByStateModel" (160 : Nat) ({ cls := "LostByStateModel", name := "told", desc := "()V" } : MethodName)) ∈ zTb := zTb_t 1281 (by decide +kernel) (by decide +kernel)
theorem m_1283 : (Cond.instanceMethod ({ cls := "LostByStateModel", name := "told", desc := "()V" } : MethodName)) ∈ zTb := zTb_t 1283 (by decide +kernel) (by decide +kernel)
theorem m_1284 : (Cond.code ({ cls := "LostByStateModel", name := "told", desc := "()V" } : MethodName) prog_14_method_24_code (1 : Nat) (Option.none : Option FieldType)) ∈ zTb := zTb_t 1284 (by decide +kernel) (by decide +kernel)
theorem m_1293 : (Cond.methodLink "LostByStateModel" (190 : Nat) ({ cls := "LostByStateModel", name := "readRule", desc := "()Z" } : MethodName)) ∈ zTb := zTb_t 1293 (by decide +kernel) (by decide +kernel)
theorem m_1295 : (Cond.instanceMethod ({ cls := "LostByStateModel", name := "readRule", desc := "()Z" } : MethodName)) ∈ zTb := zTb_t 1295 (by decide +kernel) (by decide +kernel)
theorem m_1296 : (Cond.code ({ cls := "LostByStateModel", name := "readRule", desc := "()Z" } : MethodName) prog_14_method_32_code (1 : Nat) (Option.some FieldType.boolean)) ∈ zTb := zTb_t 1296 (by decide +kernel) (by decide +kernel)
theorem m_1297 : (Cond.methodLink "LostByStateModel" (173 : Nat) ({ cls := "LostByStateModel", name := "held", desc := "(I)I" } : MethodName)) ∈ zTb := zTb_t 1297 (by decide +kernel) (by decide +kernel)
theorem m_1299 : (Cond.instanceMethod ({ cls := "LostByStateModel", name := "held", desc := "(I)I" } : MethodName)) ∈ zTb := zTb_t 1299 (by decide +kernel) (by decide +kernel)
theorem m_1300 : (Cond.code ({ cls := "LostByStateModel", name := "held", desc := "(I)I" } : MethodName) prog_14_method_27_code (3 : Nat) (Option.some FieldType.int)) ∈ zTb := zTb_t 1300 (by decide +kernel) (by decide +kernel)
theorem m_1301 : (Cond.methodLink "LostByStateModel" (163 : Nat) ({ cls := "LostByStateModel", name := "sum", desc := "(I)I" } : MethodName)) ∈ zTb := zTb_t 1301 (by decide +kernel) (by decide +kernel)
theorem m_1303 : (Cond.instanceMethod ({ cls := "LostByStateModel", name := "sum", desc := "(I)I" } : MethodName)) ∈ zTb := zTb_t 1303 (by decide +kernel) (by decide +kernel)
theorem m_1304 : (Cond.code ({ cls := "LostByStateModel", name := "sum", desc := "(I)I" } : MethodName) prog_14_method_28_code (5 : Nat) (Option.some FieldType.int)) ∈ zTb := zTb_t 1304 (by decide +kernel) (by decide +kernel)
theorem m_1305 : (Cond.methodLink "LostByStateModel" (167 : Nat) ({ cls := "LostByStateModel", name := "product", desc := "(I)I" } : MethodName)) ∈ zTb := zTb_t 1305 (by decide +kernel) (by decide +kernel)
theorem m_1307 : (Cond.instanceMethod ({ cls := "LostByStateModel", name := "product", desc := "(I)I" } : MethodName)) ∈ zTb := zTb_t 1307 (by decide +kernel) (by decide +kernel)
theorem m_1308 : (Cond.code ({ cls := "LostByStateModel", name := "product", desc := "(I)I" } : MethodName) prog_14_method_29_code (5 : Nat) (Option.some FieldType.int)) ∈ zTb := zTb_t 1308 (by decide +kernel) (by decide +kernel)
theorem m_1309 : (Cond.methodLink "LostByStateModel" (170 : Nat) ({ cls := "LostByStateModel", name := "part", desc := "(I)I" } : MethodName)) ∈ zTb := zTb_t 1309 (by decide +kernel) (by decide +kernel)
theorem m_1311 : (Cond.instanceMethod ({ cls := "LostByStateModel", name := "part", desc := "(I)I" } : MethodName)) ∈ zTb := zTb_t 1311 (by decide +kernel) (by decide +kernel)
theorem m_1312 : (Cond.code ({ cls := "LostByStateModel", name := "part", desc := "(I)I" } : MethodName) prog_14_method_31_code (4 : Nat) (Option.some FieldType.int)) ∈ zTb := zTb_t 1312 (by decide +kernel) (by decide +kernel)
theorem m_1313 : (Cond.methodLink "LostByStateModel" (176 : Nat) ({ cls := "LostByStateModel", name := "need", desc := "(C)V" } : MethodName)) ∈ zTb := zTb_t 1313 (by decide +kernel) (by decide +kernel)
theorem m_1315 : (Cond.instanceMethod ({ cls := "LostByStateModel", name := "need", desc := "(C)V" } : MethodName)) ∈ zTb := zTb_t 1315 (by decide +kernel) (by decide +kernel)
theorem m_1316 : (Cond.code ({ cls := "LostByStateModel", name := "need", desc := "(C)V" } : MethodName) prog_14_method_19_code (2 : Nat) (Option.none : Option FieldType)) ∈ zTb := zTb_t 1316 (by decide +kernel) (by decide +kernel)
theorem m_1317 : (Cond.methodLink "LostByStateModel" (180 : Nat) ({ cls := "LostByStateModel", name := "number", desc := "(I)I" } : MethodName)) ∈ zTb := zTb_t 1317 (by decide +kernel) (by decide +kernel)
theorem m_1319 : (Cond.instanceMethod ({ cls := "LostByStateModel", name := "number", desc := "(I)I" } : MethodName)) ∈ zTb := zTb_t 1319 (by decide +kernel) (by decide +kernel)
theorem m_1320 : (Cond.code ({ cls := "LostByStateModel", name := "number", desc := "(I)I" } : MethodName) prog_14_method_21_code (4 : Nat) (Option.some FieldType.int)) ∈ zTb := zTb_t 1320 (by decide +kernel) (by decide +kernel)
theorem m_1321 : (Cond.methodLink "LostByStateModel" (183 : Nat) ({ cls := "LostByStateModel", name := "letterOf", desc := "(I)I" } : MethodName)) ∈ zTb := zTb_t 1321 (by decide +kernel) (by decide +kernel)
theorem m_1322 : (Cond.static ({ cls := "LostByStateModel", name := "letterOf", desc := "(I)I" } : MethodName)) ∈ zTb := zTb_t 1322 (by decide +kernel) (by decide +kernel)
theorem m_1323 : (Cond.code ({ cls := "LostByStateModel", name := "letterOf", desc := "(I)I" } : MethodName) prog_14_method_30_code (1 : Nat) (Option.some FieldType.int)) ∈ zTb := zTb_t 1323 (by decide +kernel) (by decide +kernel)
theorem m_1328 : (Cond.methodLink "LostByStateModel" (220 : Nat) ({ cls := "LostByStateModel", name := "isThing", desc := "(I)Z" } : MethodName)) ∈ zTb := zTb_t 1328 (by decide +kernel) (by decide +kernel)
theorem m_1330 : (Cond.instanceMethod ({ cls := "LostByStateModel", name := "isThing", desc := "(I)Z" } : MethodName)) ∈ zTb := zTb_t 1330 (by decide +kernel) (by decide +kernel)
theorem m_1331 : (Cond.code ({ cls := "LostByStateModel", name := "isThing", desc := "(I)Z" } : MethodName) prog_14_method_7_code (2 : Nat) (Option.some FieldType.boolean)) ∈ zTb := zTb_t 1331 (by decide +kernel) (by decide +kernel)
theorem m_1332 : (Cond.methodLink "LostByStateModel" (224 : Nat) ({ cls := "LostByStateModel", name := "lost", desc := "()I" } : MethodName)) ∈ zTb := zTb_t 1332 (by decide +kernel) (by decide +kernel)
theorem m_1334 : (Cond.instanceMethod ({ cls := "LostByStateModel", name := "lost", desc := "()I" } : MethodName)) ∈ zTb := zTb_t 1334 (by decide +kernel) (by decide +kernel)
theorem m_1335 : (Cond.code ({ cls := "LostByStateModel", name := "lost", desc := "()I" } : MethodName) prog_14_method_5_code (1 : Nat) (Option.some FieldType.int)) ∈ zTb := zTb_t 1335 (by decide +kernel) (by decide +kernel)
theorem m_1336 : (Cond.methodLink "LostByStateModel" (227 : Nat) ({ cls := "LostByStateModel", name := "neededBy", desc := "(I)I" } : MethodName)) ∈ zTb := zTb_t 1336 (by decide +kernel) (by decide +kernel)
theorem m_1338 : (Cond.instanceMethod ({ cls := "LostByStateModel", name := "neededBy", desc := "(I)I" } : MethodName)) ∈ zTb := zTb_t 1338 (by decide +kernel) (by decide +kernel)
theorem m_1339 : (Cond.code ({ cls := "LostByStateModel", name := "neededBy", desc := "(I)I" } : MethodName) prog_14_method_40_code (4 : Nat) (Option.some FieldType.int)) ∈ zTb := zTb_t 1339 (by decide +kernel) (by decide +kernel)
theorem m_1340 : (Cond.methodLink "LostByStateModel" (216 : Nat) ({ cls := "LostByStateModel", name := "has", desc := "(II)Z" } : MethodName)) ∈ zTb := zTb_t 1340 (by decide +kernel) (by decide +kernel)
theorem m_1341 : (Cond.static ({ cls := "LostByStateModel", name := "has", desc := "(II)Z" } : MethodName)) ∈ zTb := zTb_t 1341 (by decide +kernel) (by decide +kernel)
theorem m_1342 : (Cond.code ({ cls := "LostByStateModel", name := "has", desc := "(II)Z" } : MethodName) prog_14_method_4_code (2 : Nat) (Option.some FieldType.boolean)) ∈ zTb := zTb_t 1342 (by decide +kernel) (by decide +kernel)
theorem m_1347 : (Cond.methodLink "LostByStateModel" (230 : Nat) ({ cls := "LostByStateModel", name := "isDeed", desc := "(I)Z" } : MethodName)) ∈ zTb := zTb_t 1347 (by decide +kernel) (by decide +kernel)
theorem m_1349 : (Cond.instanceMethod ({ cls := "LostByStateModel", name := "isDeed", desc := "(I)Z" } : MethodName)) ∈ zTb := zTb_t 1349 (by decide +kernel) (by decide +kernel)
theorem m_1350 : (Cond.code ({ cls := "LostByStateModel", name := "isDeed", desc := "(I)Z" } : MethodName) prog_14_method_8_code (2 : Nat) (Option.some FieldType.boolean)) ∈ zTb := zTb_t 1350 (by decide +kernel) (by decide +kernel)
theorem m_1351 : (Cond.methodLink "LostByStateModel" (213 : Nat) ({ cls := "LostByStateModel", name := "hadBy", desc := "([II)I" } : MethodName)) ∈ zTb := zTb_t 1351 (by decide +kernel) (by decide +kernel)
theorem m_1353 : (Cond.instanceMethod ({ cls := "LostByStateModel", name := "hadBy", desc := "([II)I" } : MethodName)) ∈ zTb := zTb_t 1353 (by decide +kernel) (by decide +kernel)
theorem m_1354 : (Cond.code ({ cls := "LostByStateModel", name := "hadBy", desc := "([II)I" } : MethodName) prog_14_method_37_code (5 : Nat) (Option.some FieldType.int)) ∈ zTb := zTb_t 1354 (by decide +kernel) (by decide +kernel)
theorem m_1363 : (Cond.methodLink "LostByStateModel" (201 : Nat) ({ cls := "java/lang/Math", name := "min", desc := "(II)I" } : MethodName)) ∈ zTb := zTb_t 1363 (by decide +kernel) (by decide +kernel)
theorem m_1364 : (Cond.methodLink "LostByStateModel" (206 : Nat) ({ cls := "java/lang/Math", name := "max", desc := "(II)I" } : MethodName)) ∈ zTb := zTb_t 1364 (by decide +kernel) (by decide +kernel)
theorem m_1365 : (Cond.methodLink "LostByStateModel" (233 : Nat) ({ cls := "LostByStateModel", name := "all", desc := "()I" } : MethodName)) ∈ zTb := zTb_t 1365 (by decide +kernel) (by decide +kernel)
theorem m_1367 : (Cond.instanceMethod ({ cls := "LostByStateModel", name := "all", desc := "()I" } : MethodName)) ∈ zTb := zTb_t 1367 (by decide +kernel) (by decide +kernel)
theorem m_1368 : (Cond.code ({ cls := "LostByStateModel", name := "all", desc := "()I" } : MethodName) prog_14_method_10_code (1 : Nat) (Option.some FieldType.int)) ∈ zTb := zTb_t 1368 (by decide +kernel) (by decide +kernel)
theorem m_1369 : (Cond.methodLink "LostByStateModel" (236 : Nat) ({ cls := "LostByStateModel", name := "worthOf", desc := "(I)I" } : MethodName)) ∈ zTb := zTb_t 1369 (by decide +kernel) (by decide +kernel)
theorem m_1371 : (Cond.instanceMethod ({ cls := "LostByStateModel", name := "worthOf", desc := "(I)I" } : MethodName)) ∈ zTb := zTb_t 1371 (by decide +kernel) (by decide +kernel)
theorem m_1372 : (Cond.code ({ cls := "LostByStateModel", name := "worthOf", desc := "(I)I" } : MethodName) prog_14_method_39_code (4 : Nat) (Option.some FieldType.int)) ∈ zTb := zTb_t 1372 (by decide +kernel) (by decide +kernel)
theorem m_1377 : (Cond.methodLink "LostByStateModel" (243 : Nat) ({ cls := "LostByStateModel", name := "refusesLoss", desc := "([III)I" } : MethodName)) ∈ zTb := zTb_t 1377 (by decide +kernel) (by decide +kernel)
theorem m_1379 : (Cond.instanceMethod ({ cls := "LostByStateModel", name := "refusesLoss", desc := "([III)I" } : MethodName)) ∈ zTb := zTb_t 1379 (by decide +kernel) (by decide +kernel)
theorem m_1380 : (Cond.code ({ cls := "LostByStateModel", name := "refusesLoss", desc := "([III)I" } : MethodName) prog_14_method_49_code (4 : Nat) (Option.some FieldType.int)) ∈ zTb := zTb_t 1380 (by decide +kernel) (by decide +kernel)
theorem m_1381 : (Cond.methodLink "LostByStateModel" (247 : Nat) ({ cls := "LostByStateModel", name := "remember", desc := "([I)V" } : MethodName)) ∈ zTb := zTb_t 1381 (by decide +kernel) (by decide +kernel)
theorem m_1383 : (Cond.instanceMethod ({ cls := "LostByStateModel", name := "remember", desc := "([I)V" } : MethodName)) ∈ zTb := zTb_t 1383 (by decide +kernel) (by decide +kernel)
theorem m_1384 : (Cond.code ({ cls := "LostByStateModel", name := "remember", desc := "([I)V" } : MethodName) prog_14_method_47_code (3 : Nat) (Option.none : Option FieldType)) ∈ zTb := zTb_t 1384 (by decide +kernel) (by decide +kernel)
theorem m_1385 : (Cond.methodLink "LostByStateModel" (239 : Nat) ({ cls := "LostByStateModel", name := "lay", desc := "([I[II)V" } : MethodName)) ∈ zTb := zTb_t 1385 (by decide +kernel) (by decide +kernel)
theorem m_1386 : (Cond.static ({ cls := "LostByStateModel", name := "lay", desc := "([I[II)V" } : MethodName)) ∈ zTb := zTb_t 1386 (by decide +kernel) (by decide +kernel)
theorem m_1387 : (Cond.code ({ cls := "LostByStateModel", name := "lay", desc := "([I[II)V" } : MethodName) prog_14_method_46_code (4 : Nat) (Option.none : Option FieldType)) ∈ zTb := zTb_t 1387 (by decide +kernel) (by decide +kernel)
theorem m_1388 : (Cond.methodLink "LostByStateModel" (251 : Nat) ({ cls := "LostByStateModel", name := "goes", desc := "([IIII)V" } : MethodName)) ∈ zTb := zTb_t 1388 (by decide +kernel) (by decide +kernel)
theorem m_1389 : (Cond.static ({ cls := "LostByStateModel", name := "goes", desc := "([IIII)V" } : MethodName)) ∈ zTb := zTb_t 1389 (by decide +kernel) (by decide +kernel)
theorem m_1390 : (Cond.code ({ cls := "LostByStateModel", name := "goes", desc := "([IIII)V" } : MethodName) prog_14_method_48_code (4 : Nat) (Option.none : Option FieldType)) ∈ zTb := zTb_t 1390 (by decide +kernel) (by decide +kernel)
theorem m_1391 : (Cond.methodLink "LostByStateModel" (209 : Nat) ({ cls := "LostByStateModel", name := "those", desc := "([II)I" } : MethodName)) ∈ zTb := zTb_t 1391 (by decide +kernel) (by decide +kernel)
theorem m_1393 : (Cond.instanceMethod ({ cls := "LostByStateModel", name := "those", desc := "([II)I" } : MethodName)) ∈ zTb := zTb_t 1393 (by decide +kernel) (by decide +kernel)
theorem m_1394 : (Cond.code ({ cls := "LostByStateModel", name := "those", desc := "([II)I" } : MethodName) prog_14_method_36_code (5 : Nat) (Option.some FieldType.int)) ∈ zTb := zTb_t 1394 (by decide +kernel) (by decide +kernel)
theorem m_1395 : (Cond.methodLink "LostByStateModel" (196 : Nat) ({ cls := "java/lang/Integer", name := "bitCount", desc := "(I)I" } : MethodName)) ∈ zTb := zTb_t 1395 (by decide +kernel) (by decide +kernel)
theorem m_1400 : (Cond.methodLink "LostByStateModel" (255 : Nat) ({ cls := "LostByStateModel", name := "refusesFind", desc := "([III)I" } : MethodName)) ∈ zTb := zTb_t 1400 (by decide +kernel) (by decide +kernel)
theorem m_1402 : (Cond.instanceMethod ({ cls := "LostByStateModel", name := "refusesFind", desc := "([III)I" } : MethodName)) ∈ zTb := zTb_t 1402 (by decide +kernel) (by decide +kernel)
theorem m_1403 : (Cond.code ({ cls := "LostByStateModel", name := "refusesFind", desc := "([III)I" } : MethodName) prog_14_method_51_code (4 : Nat) (Option.some FieldType.int)) ∈ zTb := zTb_t 1403 (by decide +kernel) (by decide +kernel)
theorem m_1408 : (Cond.methodLink "LostByStateModel" (264 : Nat) ({ cls := "LostByStateModel", name := "areMarks", desc := "(I)Z" } : MethodName)) ∈ zTb := zTb_t 1408 (by decide +kernel) (by decide +kernel)
theorem m_1409 : (Cond.static ({ cls := "LostByStateModel", name := "areMarks", desc := "(I)Z" } : MethodName)) ∈ zTb := zTb_t 1409 (by decide +kernel) (by decide +kernel)
theorem m_1410 : (Cond.code ({ cls := "LostByStateModel", name := "areMarks", desc := "(I)Z" } : MethodName) prog_14_method_9_code (1 : Nat) (Option.some FieldType.boolean)) ∈ zTb := zTb_t 1410 (by decide +kernel) (by decide +kernel)
theorem m_1411 : (Cond.methodLink "LostByStateModel" (261 : Nat) ({ cls := "LostByStateModel", name := "gotBy", desc := "([II)I" } : MethodName)) ∈ zTb := zTb_t 1411 (by decide +kernel) (by decide +kernel)
theorem m_1413 : (Cond.instanceMethod ({ cls := "LostByStateModel", name := "gotBy", desc := "([II)I" } : MethodName)) ∈ zTb := zTb_t 1413 (by decide +kernel) (by decide +kernel)
theorem m_1414 : (Cond.code ({ cls := "LostByStateModel", name := "gotBy", desc := "([II)I" } : MethodName) prog_14_method_53_code (7 : Nat) (Option.some FieldType.int)) ∈ zTb := zTb_t 1414 (by decide +kernel) (by decide +kernel)
theorem m_1415 : (Cond.methodLink "LostByStateModel" (258 : Nat) ({ cls := "LostByStateModel", name := "matchOf", desc := "([III)I" } : MethodName)) ∈ zTb := zTb_t 1415 (by decide +kernel) (by decide +kernel)
theorem m_1417 : (Cond.instanceMethod ({ cls := "LostByStateModel", name := "matchOf", desc := "([III)I" } : MethodName)) ∈ zTb := zTb_t 1417 (by decide +kernel) (by decide +kernel)
theorem m_1418 : (Cond.code ({ cls := "LostByStateModel", name := "matchOf", desc := "([III)I" } : MethodName) prog_14_method_34_code (8 : Nat) (Option.some FieldType.int)) ∈ zTb := zTb_t 1418 (by decide +kernel) (by decide +kernel)
theorem m_1419 : (Cond.methodLink "LostByStateModel" (267 : Nat) ({ cls := "LostByStateModel", name := "goClaim", desc := "([III)I" } : MethodName)) ∈ zTb := zTb_t 1419 (by decide +kernel) (by decide +kernel)
theorem m_1421 : (Cond.instanceMethod ({ cls := "LostByStateModel", name := "goClaim", desc := "([III)I" } : MethodName)) ∈ zTb := zTb_t 1421 (by decide +kernel) (by decide +kernel)
theorem m_1422 : (Cond.code ({ cls := "LostByStateModel", name := "goClaim", desc := "([III)I" } : MethodName) prog_14_method_54_code (5 : Nat) (Option.some FieldType.int)) ∈ zTb := zTb_t 1422 (by decide +kernel) (by decide +kernel)
theorem m_1427 : (Cond.methodLink "LostByStateModel" (270 : Nat) ({ cls := "LostByStateModel", name := "refusesGift", desc := "(II)I" } : MethodName)) ∈ zTb := zTb_t 1427 (by decide +kernel) (by decide +kernel)
theorem m_1429 : (Cond.instanceMethod ({ cls := "LostByStateModel", name := "refusesGift", desc := "(II)I" } : MethodName)) ∈ zTb := zTb_t 1429 (by decide +kernel) (by decide +kernel)
theorem m_1430 : (Cond.code ({ cls := "LostByStateModel", name := "refusesGift", desc := "(II)I" } : MethodName) prog_14_method_56_code (3 : Nat) (Option.some FieldType.int)) ∈ zTb := zTb_t 1430 (by decide +kernel) (by decide +kernel)
theorem m_1435 : (Cond.methodLink "LostByStateModel" (277 : Nat) ({ cls := "LostByStateModel", name := "goDays", desc := "([II)I" } : MethodName)) ∈ zTb := zTb_t 1435 (by decide +kernel) (by decide +kernel)
theorem m_1437 : (Cond.instanceMethod ({ cls := "LostByStateModel", name := "goDays", desc := "([II)I" } : MethodName)) ∈ zTb := zTb_t 1437 (by decide +kernel) (by decide +kernel)
theorem m_1438 : (Cond.code ({ cls := "LostByStateModel", name := "goDays", desc := "([II)I" } : MethodName) prog_14_method_59_code (5 : Nat) (Option.some FieldType.int)) ∈ zTb := zTb_t 1438 (by decide +kernel) (by decide +kernel)
theorem m_1439 : (Cond.methodLink "LostByStateModel" (273 : Nat) ({ cls := "LostByStateModel", name := "goDay", desc := "([I)I" } : MethodName)) ∈ zTb := zTb_t 1439 (by decide +kernel) (by decide +kernel)
theorem m_1441 : (Cond.instanceMethod ({ cls := "LostByStateModel", name := "goDay", desc := "([I)I" } : MethodName)) ∈ zTb := zTb_t 1441 (by decide +kernel) (by decide +kernel)
theorem m_1442 : (Cond.code ({ cls := "LostByStateModel", name := "goDay", desc := "([I)I" } : MethodName) prog_14_method_58_code (4 : Nat) (Option.some FieldType.int)) ∈ zTb := zTb_t 1442 (by decide +kernel) (by decide +kernel)
theorem m_1443 : (Cond.methodLink "LostByStateModel" (280 : Nat) ({ cls := "LostByStateModel", name := "tell", desc := "(J)V" } : MethodName)) ∈ zTb := zTb_t 1443 (by decide +kernel) (by decide +kernel)
theorem m_1445 : (Cond.instanceMethod ({ cls := "LostByStateModel", name := "tell", desc := "(J)V" } : MethodName)) ∈ zTb := zTb_t 1445 (by decide +kernel) (by decide +kernel)
theorem m_1446 : (Cond.code ({ cls := "LostByStateModel", name := "tell", desc := "(J)V" } : MethodName) prog_14_method_6_code (3 : Nat) (Option.none : Option FieldType)) ∈ zTb := zTb_t 1446 (by decide +kernel) (by decide +kernel)
theorem m_1447 : (Cond.methodLink "LostByStateModel" (284 : Nat) ({ cls := "LostByStateModel", name := "canWith", desc := "(I)I" } : MethodName)) ∈ zTb := zTb_t 1447 (by decide +kernel) (by decide +kernel)
theorem m_1449 : (Cond.instanceMethod ({ cls := "LostByStateModel", name := "canWith", desc := "(I)I" } : MethodName)) ∈ zTb := zTb_t 1449 (by decide +kernel) (by decide +kernel)
theorem m_1450 : (Cond.code ({ cls := "LostByStateModel", name := "canWith", desc := "(I)I" } : MethodName) prog_14_method_41_code (4 : Nat) (Option.some FieldType.int)) ∈ zTb := zTb_t 1450 (by decide +kernel) (by decide +kernel)
theorem m_1455 : (Cond.methodLink "LostByStateModel" (287 : Nat) ({ cls := "LostByStateModel", name := "readAct", desc := "(I)V" } : MethodName)) ∈ zTb := zTb_t 1455 (by decide +kernel) (by decide +kernel)
theorem m_1457 : (Cond.instanceMethod ({ cls := "LostByStateModel", name := "readAct", desc := "(I)V" } : MethodName)) ∈ zTb := zTb_t 1457 (by decide +kernel) (by decide +kernel)
theorem m_1458 : (Cond.code ({ cls := "LostByStateModel", name := "readAct", desc := "(I)V" } : MethodName) prog_14_method_63_code (3 : Nat) (Option.none : Option FieldType)) ∈ zTb := zTb_t 1458 (by decide +kernel) (by decide +kernel)
theorem m_1459 : (Cond.methodLink "LostByStateModel" (293 : Nat) ({ cls := "LostByStateModel", name := "risingOn", desc := "()I" } : MethodName)) ∈ zTb := zTb_t 1459 (by decide +kernel) (by decide +kernel)
theorem m_1461 : (Cond.instanceMethod ({ cls := "LostByStateModel", name := "risingOn", desc := "()I" } : MethodName)) ∈ zTb := zTb_t 1461 (by decide +kernel) (by decide +kernel)
theorem m_1462 : (Cond.code ({ cls := "LostByStateModel", name := "risingOn", desc := "()I" } : MethodName) prog_14_method_62_code (2 : Nat) (Option.some FieldType.int)) ∈ zTb := zTb_t 1462 (by decide +kernel) (by decide +kernel)
theorem m_1463 : (Cond.methodLink "LostByStateModel" (290 : Nat) ({ cls := "LostByStateModel", name := "act", desc := "(III)Z" } : MethodName)) ∈ zTb := zTb_t 1463 (by decide +kernel) (by decide +kernel)
theorem m_1465 : (Cond.instanceMethod ({ cls := "LostByStateModel", name := "act", desc := "(III)Z" } : MethodName)) ∈ zTb := zTb_t 1465 (by decide +kernel) (by decide +kernel)
theorem m_1466 : (Cond.code ({ cls := "LostByStateModel", name := "act", desc := "(III)Z" } : MethodName) prog_14_method_64_code (4 : Nat) (Option.some FieldType.boolean)) ∈ zTb := zTb_t 1466 (by decide +kernel) (by decide +kernel)
theorem m_1475 : (Cond.methodLink "LostByStateModel" (296 : Nat) ({ cls := "LostByStateModel", name := "put", desc := "(I)I" } : MethodName)) ∈ zTb := zTb_t 1475 (by decide +kernel) (by decide +kernel)
theorem m_1476 : (Cond.static ({ cls := "LostByStateModel", name := "put", desc := "(I)I" } : MethodName)) ∈ zTb := zTb_t 1476 (by decide +kernel) (by decide +kernel)
theorem m_1477 : (Cond.code ({ cls := "LostByStateModel", name := "put", desc := "(I)I" } : MethodName) prog_14_method_35_code (1 : Nat) (Option.some FieldType.int)) ∈ zTb := zTb_t 1477 (by decide +kernel) (by decide +kernel)
theorem m_1494 : (Cond.methodLink "LostByStateModel" (299 : Nat) ({ cls := "LostByStateModel", name := "givenBy", desc := "(III)I" } : MethodName)) ∈ zTb := zTb_t 1494 (by decide +kernel) (by decide +kernel)
theorem m_1496 : (Cond.instanceMethod ({ cls := "LostByStateModel", name := "givenBy", desc := "(III)I" } : MethodName)) ∈ zTb := zTb_t 1496 (by decide +kernel) (by decide +kernel)
theorem m_1497 : (Cond.code ({ cls := "LostByStateModel", name := "givenBy", desc := "(III)I" } : MethodName) prog_14_method_70_code (4 : Nat) (Option.some FieldType.int)) ∈ zTb := zTb_t 1497 (by decide +kernel) (by decide +kernel)
theorem m_1502 : (Cond.methodLink "LostByStateModel" (303 : Nat) ({ cls := "LostByStateModel", name := "untilOf", desc := "(I)I" } : MethodName)) ∈ zTb := zTb_t 1502 (by decide +kernel) (by decide +kernel)
theorem m_1504 : (Cond.instanceMethod ({ cls := "LostByStateModel", name := "untilOf", desc := "(I)I" } : MethodName)) ∈ zTb := zTb_t 1504 (by decide +kernel) (by decide +kernel)
theorem m_1505 : (Cond.code ({ cls := "LostByStateModel", name := "untilOf", desc := "(I)I" } : MethodName) prog_14_method_72_code (2 : Nat) (Option.some FieldType.int)) ∈ zTb := zTb_t 1505 (by decide +kernel) (by decide +kernel)
theorem m_1526 : (Cond.methodLink "LostByStateModel" (306 : Nat) ({ cls := "LostByStateModel", name := "byPeople", desc := "([I)I" } : MethodName)) ∈ zTb := zTb_t 1526 (by decide +kernel) (by decide +kernel)
theorem m_1528 : (Cond.instanceMethod ({ cls := "LostByStateModel", name := "byPeople", desc := "([I)I" } : MethodName)) ∈ zTb := zTb_t 1528 (by decide +kernel) (by decide +kernel)
theorem m_1529 : (Cond.code ({ cls := "LostByStateModel", name := "byPeople", desc := "([I)I" } : MethodName) prog_14_method_38_code (2 : Nat) (Option.some FieldType.int)) ∈ zTb := zTb_t 1529 (by decide +kernel) (by decide +kernel)
theorem m_1542 : (Cond.methodLink "LostByStateModel" (315 : Nat) ({ cls := "LostByStateModel", name := "fitting", desc := "()I" } : MethodName)) ∈ zTb := zTb_t 1542 (by decide +kernel) (by decide +kernel)
theorem m_1544 : (Cond.instanceMethod ({ cls := "LostByStateModel", name := "fitting", desc := "()I" } : MethodName)) ∈ zTb := zTb_t 1544 (by decide +kernel) (by decide +kernel)
theorem m_1545 : (Cond.code ({ cls := "LostByStateModel", name := "fitting", desc := "()I" } : MethodName) prog_14_method_81_code (5 : Nat) (Option.some FieldType.int)) ∈ zTb := zTb_t 1545 (by decide +kernel) (by decide +kernel)
theorem m_1550 : (Cond.constant "LostByStateModel" (318 : Nat) (1000000 : Int32)) ∈ zTb := zTb_t 1550 (by decide +kernel) (by decide +kernel)
theorem m_1555 : (Cond.methodLink "LostByStateModel" (319 : Nat) ({ cls := "LostByStateModel", name := "doTell", desc := "(I)Z" } : MethodName)) ∈ zTb := zTb_t 1555 (by decide +kernel) (by decide +kernel)
theorem m_1557 : (Cond.instanceMethod ({ cls := "LostByStateModel", name := "doTell", desc := "(I)Z" } : MethodName)) ∈ zTb := zTb_t 1557 (by decide +kernel) (by decide +kernel)
theorem m_1558 : (Cond.code ({ cls := "LostByStateModel", name := "doTell", desc := "(I)Z" } : MethodName) prog_14_method_84_code (4 : Nat) (Option.some FieldType.boolean)) ∈ zTb := zTb_t 1558 (by decide +kernel) (by decide +kernel)
theorem m_1567 : (Cond.constantLong "LostByStateModel" (326 : Nat) (1024 : Int64)) ∈ zTb := zTb_t 1567 (by decide +kernel) (by decide +kernel)
theorem m_1568 : (Cond.constantLong "LostByStateModel" (328 : Nat) (2 : Int64)) ∈ zTb := zTb_t 1568 (by decide +kernel) (by decide +kernel)
theorem m_1569 : (Cond.methodLink "LostByStateModel" (330 : Nat) ({ cls := "LostByStateModel", name := "tellPart", desc := "(JJ)V" } : MethodName)) ∈ zTb := zTb_t 1569 (by decide +kernel) (by decide +kernel)
theorem m_1571 : (Cond.instanceMethod ({ cls := "LostByStateModel", name := "tellPart", desc := "(JJ)V" } : MethodName)) ∈ zTb := zTb_t 1571 (by decide +kernel) (by decide +kernel)
theorem m_1572 : (Cond.code ({ cls := "LostByStateModel", name := "tellPart", desc := "(JJ)V" } : MethodName) prog_14_method_88_code (7 : Nat) (Option.none : Option FieldType)) ∈ zTb := zTb_t 1572 (by decide +kernel) (by decide +kernel)
theorem m_1573 : (Cond.methodLink "LostByStateModel" (322 : Nat) ({ cls := "LostByStateModel", name := "common", desc := "(JJ)J" } : MethodName)) ∈ zTb := zTb_t 1573 (by decide +kernel) (by decide +kernel)
theorem m_1574 : (Cond.static ({ cls := "LostByStateModel", name := "common", desc := "(JJ)J" } : MethodName)) ∈ zTb := zTb_t 1574 (by decide +kernel) (by decide +kernel)
theorem m_1575 : (Cond.code ({ cls := "LostByStateModel", name := "common", desc := "(JJ)J" } : MethodName) prog_14_method_87_code (4 : Nat) (Option.some FieldType.long)) ∈ zTb := zTb_t 1575 (by decide +kernel) (by decide +kernel)
theorem m_1584 : (Cond.methodLink "LostByStateModel" (334 : Nat) ({ cls := "LostByStateModel", name := "allNeeds", desc := "()I" } : MethodName)) ∈ zTb := zTb_t 1584 (by decide +kernel) (by decide +kernel)
theorem m_1586 : (Cond.instanceMethod ({ cls := "LostByStateModel", name := "allNeeds", desc := "()I" } : MethodName)) ∈ zTb := zTb_t 1586 (by decide +kernel) (by decide +kernel)
theorem m_1587 : (Cond.code ({ cls := "LostByStateModel", name := "allNeeds", desc := "()I" } : MethodName) prog_14_method_91_code (3 : Nat) (Option.some FieldType.int)) ∈ zTb := zTb_t 1587 (by decide +kernel) (by decide +kernel)
theorem m_1600 : (Cond.constantLong "LostByStateModel" (337 : Nat) (840 : Int64)) ∈ zTb := zTb_t 1600 (by decide +kernel) (by decide +kernel)
theorem m_1609 : (Cond.methodLink "LostByStateModel" (339 : Nat) ({ cls := "LostByStateModel", name := "power", desc := "(JI)J" } : MethodName)) ∈ zTb := zTb_t 1609 (by decide +kernel) (by decide +kernel)
theorem m_1610 : (Cond.static ({ cls := "LostByStateModel", name := "power", desc := "(JI)J" } : MethodName)) ∈ zTb := zTb_t 1610 (by decide +kernel) (by decide +kernel)
theorem m_1611 : (Cond.code ({ cls := "LostByStateModel", name := "power", desc := "(JI)J" } : MethodName) prog_14_method_97_code (6 : Nat) (Option.some FieldType.long)) ∈ zTb := zTb_t 1611 (by decide +kernel) (by decide +kernel)
theorem m_1612 : (Cond.constantLong "LostByStateModel" (343 : Nat) (10 : Int64)) ∈ zTb := zTb_t 1612 (by decide +kernel) (by decide +kernel)
theorem m_1621 : (Cond.methodLink "LostByStateModel" (349 : Nat) ({ cls := "LostByStateModel", name := "isBest", desc := "(IIII)Z" } : MethodName)) ∈ zTb := zTb_t 1621 (by decide +kernel) (by decide +kernel)
theorem m_1622 : (Cond.static ({ cls := "LostByStateModel", name := "isBest", desc := "(IIII)Z" } : MethodName)) ∈ zTb := zTb_t 1622 (by decide +kernel) (by decide +kernel)
theorem m_1623 : (Cond.code ({ cls := "LostByStateModel", name := "isBest", desc := "(IIII)Z" } : MethodName) prog_14_method_101_code (5 : Nat) (Option.some FieldType.boolean)) ∈ zTb := zTb_t 1623 (by decide +kernel) (by decide +kernel)
theorem m_1624 : (Cond.methodLink "LostByStateModel" (345 : Nat) ({ cls := "LostByStateModel", name := "earns", desc := "(IIII)I" } : MethodName)) ∈ zTb := zTb_t 1624 (by decide +kernel) (by decide +kernel)
theorem m_1625 : (Cond.static ({ cls := "LostByStateModel", name := "earns", desc := "(IIII)I" } : MethodName)) ∈ zTb := zTb_t 1625 (by decide +kernel) (by decide +kernel)
theorem m_1626 : (Cond.code ({ cls := "LostByStateModel", name := "earns", desc := "(IIII)I" } : MethodName) prog_14_method_100_code (4 : Nat) (Option.some FieldType.int)) ∈ zTb := zTb_t 1626 (by decide +kernel) (by decide +kernel)
theorem m_1631 : (Cond.methodLink "LostByStateModel" (353 : Nat) ({ cls := "LostByStateModel", name := "getting", desc := "()I" } : MethodName)) ∈ zTb := zTb_t 1631 (by decide +kernel) (by decide +kernel)
theorem m_1633 : (Cond.instanceMethod ({ cls := "LostByStateModel", name := "getting", desc := "()I" } : MethodName)) ∈ zTb := zTb_t 1633 (by decide +kernel) (by decide +kernel)
theorem m_1634 : (Cond.code ({ cls := "LostByStateModel", name := "getting", desc := "()I" } : MethodName) prog_14_method_103_code (3 : Nat) (Option.some FieldType.int)) ∈ zTb := zTb_t 1634 (by decide +kernel) (by decide +kernel)
theorem m_1639 : (Cond.methodLink "LostByStateModel" (360 : Nat) ({ cls := "LostByStateModel", name := "draw", desc := "(I)I" } : MethodName)) ∈ zTb := zTb_t 1639 (by decide +kernel) (by decide +kernel)
theorem m_1641 : (Cond.instanceMethod ({ cls := "LostByStateModel", name := "draw", desc := "(I)I" } : MethodName)) ∈ zTb := zTb_t 1641 (by decide +kernel) (by decide +kernel)
theorem m_1642 : (Cond.code ({ cls := "LostByStateModel", name := "draw", desc := "(I)I" } : MethodName) prog_14_method_105_code (2 : Nat) (Option.some FieldType.int)) ∈ zTb := zTb_t 1642 (by decide +kernel) (by decide +kernel)
theorem m_1643 : (Cond.constant "LostByStateModel" (359 : Nat) (1103515245 : Int32)) ∈ zTb := zTb_t 1643 (by decide +kernel) (by decide +kernel)
theorem m_1677 : (Cond.fieldLink "java/lang/String" (15 : Nat) "java/lang/String" "coder" "B") ∈ zTb := zTb_t 1677 (by decide +kernel) (by decide +kernel)
theorem m_1678 : (Cond.fieldLink "java/lang/String" (9 : Nat) "java/lang/String" "value" "[B") ∈ zTb := zTb_t 1678 (by decide +kernel) (by decide +kernel)
theorem p_0 : Cond.selects "LostByState" ⟨"LostByState", "forgetThePast", "()V"⟩ ⟨"LostByState", "forgetThePast", "()V"⟩ ∈ zTb := zTb_p 0 (by decide +kernel) (by decide +kernel)
theorem p_1 : Cond.selects "LostByState" ⟨"LostByState", "readOtherRule", "()I"⟩ ⟨"LostByState", "readOtherRule", "()I"⟩ ∈ zTb := zTb_p 1 (by decide +kernel) (by decide +kernel)
theorem p_2 : Cond.selects "LostByState$RuleReader" ⟨"LostByState$RuleReader", "readComparison", "(I)Z"⟩ ⟨"LostByState$RuleReader", "readComparison", "(I)Z"⟩ ∈ zTb := zTb_p 2 (by decide +kernel) (by decide +kernel)
theorem p_3 : Cond.selects "LostByState$RuleReader" ⟨"LostByState$RuleReader", "readSum", "(I)Z"⟩ ⟨"LostByState$RuleReader", "readSum", "(I)Z"⟩ ∈ zTb := zTb_p 3 (by decide +kernel) (by decide +kernel)
theorem p_4 : Cond.selects "LostByState$RuleReader" ⟨"LostByState$RuleReader", "readProduct", "(I)Z"⟩ ⟨"LostByState$RuleReader", "readProduct", "(I)Z"⟩ ∈ zTb := zTb_p 4 (by decide +kernel) (by decide +kernel)
theorem p_5 : Cond.selects "LostByState$RuleReader" ⟨"LostByState$RuleReader", "readSigned", "(I)Z"⟩ ⟨"LostByState$RuleReader", "readSigned", "(I)Z"⟩ ∈ zTb := zTb_p 5 (by decide +kernel) (by decide +kernel)
theorem p_6 : Cond.selects "LostByState$RuleReader" ⟨"LostByState$RuleReader", "seen", "()I"⟩ ⟨"LostByState$RuleReader", "seen", "()I"⟩ ∈ zTb := zTb_p 6 (by decide +kernel) (by decide +kernel)
theorem p_7 : Cond.selects "LostByState$RuleReader" ⟨"LostByState$RuleReader", "readInBrackets", "(I)Z"⟩ ⟨"LostByState$RuleReader", "readInBrackets", "(I)Z"⟩ ∈ zTb := zTb_p 7 (by decide +kernel) (by decide +kernel)
theorem p_8 : Cond.selects "LostByState$RuleReader" ⟨"LostByState$RuleReader", "readNumber", "()Z"⟩ ⟨"LostByState$RuleReader", "readNumber", "()Z"⟩ ∈ zTb := zTb_p 8 (by decide +kernel) (by decide +kernel)
theorem p_9 : Cond.selects "LostByState$RuleReader" ⟨"LostByState$RuleReader", "readName", "()Z"⟩ ⟨"LostByState$RuleReader", "readName", "()Z"⟩ ∈ zTb := zTb_p 9 (by decide +kernel) (by decide +kernel)
theorem p_10 : Cond.selects "LostByState" ⟨"LostByState", "act", "(III)I"⟩ ⟨"LostByState", "act", "(III)I"⟩ ∈ zTb := zTb_p 10 (by decide +kernel) (by decide +kernel)
theorem p_11 : Cond.selects "LostByState" ⟨"LostByState", "perform", "(LLostByState$Whereabouts;III)I"⟩ ⟨"LostByState", "perform", "(LLostByState$Whereabouts;III)I"⟩ ∈ zTb := zTb_p 11 (by decide +kernel) (by decide +kernel)
theorem p_12 : Cond.selects "LostByState" ⟨"LostByState", "isThing", "(I)Z"⟩ ⟨"LostByState", "isThing", "(I)Z"⟩ ∈ zTb := zTb_p 12 (by decide +kernel) (by decide +kernel)
theorem p_13 : Cond.selects "LostByState" ⟨"LostByState", "handOut", "(LLostByState$Whereabouts;II)I"⟩ ⟨"LostByState", "handOut", "(LLostByState$Whereabouts;II)I"⟩ ∈ zTb := zTb_p 13 (by decide +kernel) (by decide +kernel)
theorem p_14 : Cond.selects "LostByState" ⟨"LostByState", "bestThing", "(ILLostByState$Whereabouts;)I"⟩ ⟨"LostByState", "bestThing", "(ILLostByState$Whereabouts;)I"⟩ ∈ zTb := zTb_p 14 (by decide +kernel) (by decide +kernel)
theorem p_15 : Cond.selects "LostByState" ⟨"LostByState", "matchOf", "(IILLostByState$Whereabouts;)I"⟩ ⟨"LostByState", "matchOf", "(IILLostByState$Whereabouts;)I"⟩ ∈ zTb := zTb_p 15 (by decide +kernel) (by decide +kernel)
theorem p_16 : Cond.selects "LostByState$Rule" ⟨"LostByState$Rule", "namedValue", "(I)I"⟩ ⟨"LostByState$Rule", "namedValue", "(I)I"⟩ ∈ zTb := zTb_p 16 (by decide +kernel) (by decide +kernel)
theorem p_17 : Cond.selects "LostByState$Whereabouts" ⟨"LostByState$Whereabouts", "passDay", "(I)I"⟩ ⟨"LostByState$Whereabouts", "passDay", "(I)I"⟩ ∈ zTb := zTb_p 17 (by decide +kernel) (by decide +kernel)
theorem p_18 : Cond.selects "LostByState" ⟨"LostByState", "howManyMatch", "(I)I"⟩ ⟨"LostByState", "howManyMatch", "(I)I"⟩ ∈ zTb := zTb_p 18 (by decide +kernel) (by decide +kernel)
theorem p_19 : Cond.selects "LostByState" ⟨"LostByState", "surveyBy", "(LLostByState$Rule;)V"⟩ ⟨"LostByState", "surveyBy", "(LLostByState$Rule;)V"⟩ ∈ zTb := zTb_p 19 (by decide +kernel) (by decide +kernel)
theorem p_20 : Cond.selects "LostByState$Sharing" ⟨"LostByState$Sharing", "mostFrom", "(III)I"⟩ ⟨"LostByState$Sharing", "mostFrom", "(III)I"⟩ ∈ zTb := zTb_p 20 (by decide +kernel) (by decide +kernel)
theorem p_21 : Cond.selects "LostByState$Sharing" ⟨"LostByState$Sharing", "withThing", "(III)I"⟩ ⟨"LostByState$Sharing", "withThing", "(III)I"⟩ ∈ zTb := zTb_p 21 (by decide +kernel) (by decide +kernel)
theorem p_22 : Cond.selects "LostByState" ⟨"LostByState", "tellShares", "(II)V"⟩ ⟨"LostByState", "tellShares", "(II)V"⟩ ∈ zTb := zTb_p 22 (by decide +kernel) (by decide +kernel)
theorem p_23 : Cond.selects "LostByState" ⟨"LostByState", "isDeed", "(I)Z"⟩ ⟨"LostByState", "isDeed", "(I)Z"⟩ ∈ zTb := zTb_p 23 (by decide +kernel) (by decide +kernel)
theorem p_24 : Cond.selects "LostByState" ⟨"LostByState", "fittingThings", "()I"⟩ ⟨"LostByState", "fittingThings", "()I"⟩ ∈ zTb := zTb_p 24 (by decide +kernel) (by decide +kernel)
theorem p_25 : Cond.selects "LostByState" ⟨"LostByState", "sumOfDigits", "()J"⟩ ⟨"LostByState", "sumOfDigits", "()J"⟩ ∈ zTb := zTb_p 25 (by decide +kernel) (by decide +kernel)
theorem p_26 : Cond.selects "LostByState" ⟨"LostByState", "tellLooks", "(IJ)V"⟩ ⟨"LostByState", "tellLooks", "(IJ)V"⟩ ∈ zTb := zTb_p 26 (by decide +kernel) (by decide +kernel)
theorem p_27 : Cond.selects "LostByState" ⟨"LostByState", "likeliestPlace", "()I"⟩ ⟨"LostByState", "likeliestPlace", "()I"⟩ ∈ zTb := zTb_p 27 (by decide +kernel) (by decide +kernel)
theorem p_28 : Cond.selects "LostByState" ⟨"LostByState", "drawnActGets", "()Z"⟩ ⟨"LostByState", "drawnActGets", "()Z"⟩ ∈ zTb := zTb_p 28 (by decide +kernel) (by decide +kernel)
theorem p_29 : Cond.selects "LostByState" ⟨"LostByState", "draw", "(I)I"⟩ ⟨"LostByState", "draw", "(I)I"⟩ ∈ zTb := zTb_p 29 (by decide +kernel) (by decide +kernel)
theorem p_31 : Cond.selects "LostByStateModel" ⟨"LostByStateModel", "beginText", "(I)V"⟩ ⟨"LostByStateModel", "beginText", "(I)V"⟩ ∈ zTb := zTb_p 31 (by decide +kernel) (by decide +kernel)
theorem p_32 : Cond.selects "LostByStateModel" ⟨"LostByStateModel", "begin", "([BII)V"⟩ ⟨"LostByStateModel", "begin", "([BII)V"⟩ ∈ zTb := zTb_p 32 (by decide +kernel) (by decide +kernel)
theorem p_33 : Cond.selects "LostByStateModel" ⟨"LostByStateModel", "fine", "()Z"⟩ ⟨"LostByStateModel", "fine", "()Z"⟩ ∈ zTb := zTb_p 33 (by decide +kernel) (by decide +kernel)
theorem p_34 : Cond.selects "LostByStateModel" ⟨"LostByStateModel", "fault", "(I)V"⟩ ⟨"LostByStateModel", "fault", "(I)V"⟩ ∈ zTb := zTb_p 34 (by decide +kernel) (by decide +kernel)
theorem p_35 : Cond.selects "LostByStateModel" ⟨"LostByStateModel", "oneOf", "(CI)I"⟩ ⟨"LostByStateModel", "oneOf", "(CI)I"⟩ ∈ zTb := zTb_p 35 (by decide +kernel) (by decide +kernel)
theorem p_36 : Cond.selects "LostByStateModel" ⟨"LostByStateModel", "here", "()I"⟩ ⟨"LostByStateModel", "here", "()I"⟩ ∈ zTb := zTb_p 36 (by decide +kernel) (by decide +kernel)
theorem p_37 : Cond.selects "LostByStateModel" ⟨"LostByStateModel", "rising", "(II)I"⟩ ⟨"LostByStateModel", "rising", "(II)I"⟩ ∈ zTb := zTb_p 37 (by decide +kernel) (by decide +kernel)
theorem p_38 : Cond.selects "LostByStateModel" ⟨"LostByStateModel", "passes", "(C)Z"⟩ ⟨"LostByStateModel", "passes", "(C)Z"⟩ ∈ zTb := zTb_p 38 (by decide +kernel) (by decide +kernel)
theorem p_39 : Cond.selects "LostByStateModel" ⟨"LostByStateModel", "wasRight", "()Z"⟩ ⟨"LostByStateModel", "wasRight", "()Z"⟩ ∈ zTb := zTb_p 39 (by decide +kernel) (by decide +kernel)
theorem p_40 : Cond.selects "LostByStateModel" ⟨"LostByStateModel", "told", "()V"⟩ ⟨"LostByStateModel", "told", "()V"⟩ ∈ zTb := zTb_p 40 (by decide +kernel) (by decide +kernel)
theorem p_41 : Cond.selects "LostByStateModel" ⟨"LostByStateModel", "readRule", "()Z"⟩ ⟨"LostByStateModel", "readRule", "()Z"⟩ ∈ zTb := zTb_p 41 (by decide +kernel) (by decide +kernel)
theorem p_42 : Cond.selects "LostByStateModel" ⟨"LostByStateModel", "held", "(I)I"⟩ ⟨"LostByStateModel", "held", "(I)I"⟩ ∈ zTb := zTb_p 42 (by decide +kernel) (by decide +kernel)
theorem p_43 : Cond.selects "LostByStateModel" ⟨"LostByStateModel", "sum", "(I)I"⟩ ⟨"LostByStateModel", "sum", "(I)I"⟩ ∈ zTb := zTb_p 43 (by decide +kernel) (by decide +kernel)
theorem p_44 : Cond.selects "LostByStateModel" ⟨"LostByStateModel", "product", "(I)I"⟩ ⟨"LostByStateModel", "product", "(I)I"⟩ ∈ zTb := zTb_p 44 (by decide +kernel) (by decide +kernel)
theorem p_45 : Cond.selects "LostByStateModel" ⟨"LostByStateModel", "part", "(I)I"⟩ ⟨"LostByStateModel", "part", "(I)I"⟩ ∈ zTb := zTb_p 45 (by decide +kernel) (by decide +kernel)
theorem p_46 : Cond.selects "LostByStateModel" ⟨"LostByStateModel", "need", "(C)V"⟩ ⟨"LostByStateModel", "need", "(C)V"⟩ ∈ zTb := zTb_p 46 (by decide +kernel) (by decide +kernel)
theorem p_47 : Cond.selects "LostByStateModel" ⟨"LostByStateModel", "number", "(I)I"⟩ ⟨"LostByStateModel", "number", "(I)I"⟩ ∈ zTb := zTb_p 47 (by decide +kernel) (by decide +kernel)
theorem p_48 : Cond.selects "LostByStateModel" ⟨"LostByStateModel", "isThing", "(I)Z"⟩ ⟨"LostByStateModel", "isThing", "(I)Z"⟩ ∈ zTb := zTb_p 48 (by decide +kernel) (by decide +kernel)
theorem p_49 : Cond.selects "LostByStateModel" ⟨"LostByStateModel", "lost", "()I"⟩ ⟨"LostByStateModel", "lost", "()I"⟩ ∈ zTb := zTb_p 49 (by decide +kernel) (by decide +kernel)
theorem p_50 : Cond.selects "LostByStateModel" ⟨"LostByStateModel", "neededBy", "(I)I"⟩ ⟨"LostByStateModel", "neededBy", "(I)I"⟩ ∈ zTb := zTb_p 50 (by decide +kernel) (by decide +kernel)
theorem p_51 : Cond.selects "LostByStateModel" ⟨"LostByStateModel", "isDeed", "(I)Z"⟩ ⟨"LostByStateModel", "isDeed", "(I)Z"⟩ ∈ zTb := zTb_p 51 (by decide +kernel) (by decide +kernel)
theorem p_52 : Cond.selects "LostByStateModel" ⟨"LostByStateModel", "hadBy", "([II)I"⟩ ⟨"LostByStateModel", "hadBy", "([II)I"⟩ ∈ zTb := zTb_p 52 (by decide +kernel) (by decide +kernel)
theorem p_53 : Cond.selects "LostByStateModel" ⟨"LostByStateModel", "all", "()I"⟩ ⟨"LostByStateModel", "all", "()I"⟩ ∈ zTb := zTb_p 53 (by decide +kernel) (by decide +kernel)
theorem p_54 : Cond.selects "LostByStateModel" ⟨"LostByStateModel", "worthOf", "(I)I"⟩ ⟨"LostByStateModel", "worthOf", "(I)I"⟩ ∈ zTb := zTb_p 54 (by decide +kernel) (by decide +kernel)
theorem p_55 : Cond.selects "LostByStateModel" ⟨"LostByStateModel", "refusesLoss", "([III)I"⟩ ⟨"LostByStateModel", "refusesLoss", "([III)I"⟩ ∈ zTb := zTb_p 55 (by decide +kernel) (by decide +kernel)
theorem p_56 : Cond.selects "LostByStateModel" ⟨"LostByStateModel", "remember", "([I)V"⟩ ⟨"LostByStateModel", "remember", "([I)V"⟩ ∈ zTb := zTb_p 56 (by decide +kernel) (by decide +kernel)
theorem p_57 : Cond.selects "LostByStateModel" ⟨"LostByStateModel", "those", "([II)I"⟩ ⟨"LostByStateModel", "those", "([II)I"⟩ ∈ zTb := zTb_p 57 (by decide +kernel) (by decide +kernel)
theorem p_58 : Cond.selects "LostByStateModel" ⟨"LostByStateModel", "refusesFind", "([III)I"⟩ ⟨"LostByStateModel", "refusesFind", "([III)I"⟩ ∈ zTb := zTb_p 58 (by decide +kernel) (by decide +kernel)
theorem p_59 : Cond.selects "LostByStateModel" ⟨"LostByStateModel", "gotBy", "([II)I"⟩ ⟨"LostByStateModel", "gotBy", "([II)I"⟩ ∈ zTb := zTb_p 59 (by decide +kernel) (by decide +kernel)
theorem p_60 : Cond.selects "LostByStateModel" ⟨"LostByStateModel", "matchOf", "([III)I"⟩ ⟨"LostByStateModel", "matchOf", "([III)I"⟩ ∈ zTb := zTb_p 60 (by decide +kernel) (by decide +kernel)
theorem p_61 : Cond.selects "LostByStateModel" ⟨"LostByStateModel", "goClaim", "([III)I"⟩ ⟨"LostByStateModel", "goClaim", "([III)I"⟩ ∈ zTb := zTb_p 61 (by decide +kernel) (by decide +kernel)
theorem p_62 : Cond.selects "LostByStateModel" ⟨"LostByStateModel", "refusesGift", "(II)I"⟩ ⟨"LostByStateModel", "refusesGift", "(II)I"⟩ ∈ zTb := zTb_p 62 (by decide +kernel) (by decide +kernel)
theorem p_63 : Cond.selects "LostByStateModel" ⟨"LostByStateModel", "goDays", "([II)I"⟩ ⟨"LostByStateModel", "goDays", "([II)I"⟩ ∈ zTb := zTb_p 63 (by decide +kernel) (by decide +kernel)
theorem p_64 : Cond.selects "LostByStateModel" ⟨"LostByStateModel", "goDay", "([I)I"⟩ ⟨"LostByStateModel", "goDay", "([I)I"⟩ ∈ zTb := zTb_p 64 (by decide +kernel) (by decide +kernel)
theorem p_65 : Cond.selects "LostByStateModel" ⟨"LostByStateModel", "tell", "(J)V"⟩ ⟨"LostByStateModel", "tell", "(J)V"⟩ ∈ zTb := zTb_p 65 (by decide +kernel) (by decide +kernel)
theorem p_66 : Cond.selects "LostByStateModel" ⟨"LostByStateModel", "canWith", "(I)I"⟩ ⟨"LostByStateModel", "canWith", "(I)I"⟩ ∈ zTb := zTb_p 66 (by decide +kernel) (by decide +kernel)
theorem p_67 : Cond.selects "LostByStateModel" ⟨"LostByStateModel", "readAct", "(I)V"⟩ ⟨"LostByStateModel", "readAct", "(I)V"⟩ ∈ zTb := zTb_p 67 (by decide +kernel) (by decide +kernel)
theorem p_68 : Cond.selects "LostByStateModel" ⟨"LostByStateModel", "risingOn", "()I"⟩ ⟨"LostByStateModel", "risingOn", "()I"⟩ ∈ zTb := zTb_p 68 (by decide +kernel) (by decide +kernel)
theorem p_69 : Cond.selects "LostByStateModel" ⟨"LostByStateModel", "act", "(III)Z"⟩ ⟨"LostByStateModel", "act", "(III)Z"⟩ ∈ zTb := zTb_p 69 (by decide +kernel) (by decide +kernel)
theorem p_70 : Cond.selects "LostByStateModel" ⟨"LostByStateModel", "givenBy", "(III)I"⟩ ⟨"LostByStateModel", "givenBy", "(III)I"⟩ ∈ zTb := zTb_p 70 (by decide +kernel) (by decide +kernel)
theorem p_71 : Cond.selects "LostByStateModel" ⟨"LostByStateModel", "untilOf", "(I)I"⟩ ⟨"LostByStateModel", "untilOf", "(I)I"⟩ ∈ zTb := zTb_p 71 (by decide +kernel) (by decide +kernel)
theorem p_72 : Cond.selects "LostByStateModel" ⟨"LostByStateModel", "byPeople", "([I)I"⟩ ⟨"LostByStateModel", "byPeople", "([I)I"⟩ ∈ zTb := zTb_p 72 (by decide +kernel) (by decide +kernel)
theorem p_73 : Cond.selects "LostByStateModel" ⟨"LostByStateModel", "fitting", "()I"⟩ ⟨"LostByStateModel", "fitting", "()I"⟩ ∈ zTb := zTb_p 73 (by decide +kernel) (by decide +kernel)
theorem p_74 : Cond.selects "LostByStateModel" ⟨"LostByStateModel", "doTell", "(I)Z"⟩ ⟨"LostByStateModel", "doTell", "(I)Z"⟩ ∈ zTb := zTb_p 74 (by decide +kernel) (by decide +kernel)
theorem p_75 : Cond.selects "LostByStateModel" ⟨"LostByStateModel", "tellPart", "(JJ)V"⟩ ⟨"LostByStateModel", "tellPart", "(JJ)V"⟩ ∈ zTb := zTb_p 75 (by decide +kernel) (by decide +kernel)
theorem p_76 : Cond.selects "LostByStateModel" ⟨"LostByStateModel", "allNeeds", "()I"⟩ ⟨"LostByStateModel", "allNeeds", "()I"⟩ ∈ zTb := zTb_p 76 (by decide +kernel) (by decide +kernel)
theorem p_77 : Cond.selects "LostByStateModel" ⟨"LostByStateModel", "getting", "()I"⟩ ⟨"LostByStateModel", "getting", "()I"⟩ ∈ zTb := zTb_p 77 (by decide +kernel) (by decide +kernel)
theorem p_78 : Cond.selects "LostByStateModel" ⟨"LostByStateModel", "draw", "(I)I"⟩ ⟨"LostByStateModel", "draw", "(I)I"⟩ ∈ zTb := zTb_p 78 (by decide +kernel) (by decide +kernel)
/-! classes: their words -/
theorem uX0 : ∀ w ∈ u_ws RX0 TX0 4, w ∈ zTb := zAll _ [209, 211, 213, 215] (by decide +kernel) (by decide +kernel)
theorem uX1 : ∀ w ∈ u_ws RX1 TX1 3, w ∈ zTb := zAll _ [264, 266, 268] (by decide +kernel) (by decide +kernel)
theorem uX2 : ∀ w ∈ u_ws RX2 TX2 3, w ∈ zTb := zAll _ [139, 141, 143] (by decide +kernel) (by decide +kernel)
theorem uX3 : ∀ w ∈ u_ws RX3 TX3 2, w ∈ zTb := zAll _ [62, 64] (by decide +kernel) (by decide +kernel)
theorem uX4 : ∀ w ∈ u_ws RX4 TX4 4, w ∈ zTb := zAll _ [166, 168, 170, 172] (by decide +kernel) (by decide +kernel)
theorem uX5 : ∀ w ∈ u_ws RX5 TX5 4, w ∈ zTb := zAll _ [186, 188, 190, 192] (by decide +kernel) (by decide +kernel)
theorem uX6 : ∀ w ∈ u_ws RX6 TX6 3, w ∈ zTb := zAll _ [230, 232, 234] (by decide +kernel) (by decide +kernel)
theorem uX7 : ∀ w ∈ u_ws RX7 TX7 5, w ∈ zTb := zAll _ [84, 86, 88, 90, 92] (by decide +kernel) (by decide +kernel)
theorem uX8 : ∀ w ∈ u_ws RX8 TX8 3, w ∈ zTb := zAll _ [247, 249, 251] (by decide +kernel) (by decide +kernel)
theorem uX9 : ∀ w ∈ u_ws RX9 TX9 2, w ∈ zTb := zAll _ [46, 48] (by decide +kernel) (by decide +kernel)
theorem uX10 : ∀ w ∈ u_ws RX10 TX10 6, w ∈ zTb := zAll _ [113, 115, 117, 119, 121, 123] (by decide +kernel) (by decide +kernel)
theorem uX11 : ∀ w ∈ u_ws RX11 TX11 19, w ∈ zTb := zAll _ [290, 292, 294, 296, 298, 300, 302, 304, 306, 308, 310, 312, 314, 316, 318, 320, 322, 324, 326] (by decide +kernel) (by decide +kernel)
theorem uX12 : ∀ w ∈ u_ws RX12 TX12 41, w ∈ zTb := zAll _ [1143, 1145, 1147, 1149, 1151, 1153, 1155, 1157, 1159, 1161, 1163, 1165, 1167, 1169, 1171, 1173, 1175, 1177, 1179, 1181, 1183, 1185, 1187, 1189, 1191, 1193, 1195, 1197, 1199, 1201, 1203, 1205, 1207, 1209, 1211, 1213, 1215, 1217, 1219, 1221, 1223] (by decide +kernel) (by decide +kernel)
theorem kb_10 : (Int8.ofInt 10).toInt32 = 10 := by decide +kernel
theorem kb_100 : (Int8.ofInt 100).toInt32 = 100 := by decide +kernel
theorem kb_102 : (Int8.ofInt 102).toInt32 = 102 := by decide +kernel
theorem kb_103 : (Int8.ofInt 103).toInt32 = 103 := by decide +kernel
theorem kb_104 : (Int8.ofInt 104).toInt32 = 104 := by decide +kernel
theorem kb_108 : (Int8.ofInt 108).toInt32 = 108 := by decide +kernel
theorem kb_109 : (Int8.ofInt 109).toInt32 = 109 := by decide +kernel
theorem kb_110 : (Int8.ofInt 110).toInt32 = 110 := by decide +kernel
theorem kb_119 : (Int8.ofInt 119).toInt32 = 119 := by decide +kernel
theorem kb_12 : (Int8.ofInt 12).toInt32 = 12 := by decide +kernel
theorem kb_120 : (Int8.ofInt 120).toInt32 = 120 := by decide +kernel
theorem kb_121 : (Int8.ofInt 121).toInt32 = 121 := by decide +kernel
theorem kb_13 : (Int8.ofInt 13).toInt32 = 13 := by decide +kernel
theorem kb_16 : (Int8.ofInt 16).toInt32 = 16 := by decide +kernel
theorem kb_20 : (Int8.ofInt 20).toInt32 = 20 := by decide +kernel
theorem kb_24 : (Int8.ofInt 24).toInt32 = 24 := by decide +kernel
theorem kb_25 : (Int8.ofInt 25).toInt32 = 25 := by decide +kernel
theorem kb_26 : (Int8.ofInt 26).toInt32 = 26 := by decide +kernel
theorem kb_30 : (Int8.ofInt 30).toInt32 = 30 := by decide +kernel
theorem kb_40 : (Int8.ofInt 40).toInt32 = 40 := by decide +kernel
theorem kb_41 : (Int8.ofInt 41).toInt32 = 41 := by decide +kernel
theorem kb_42 : (Int8.ofInt 42).toInt32 = 42 := by decide +kernel
theorem kb_43 : (Int8.ofInt 43).toInt32 = 43 := by decide +kernel
theorem kb_45 : (Int8.ofInt 45).toInt32 = 45 := by decide +kernel
theorem kb_47 : (Int8.ofInt 47).toInt32 = 47 := by decide +kernel
theorem kb_48 : (Int8.ofInt 48).toInt32 = 48 := by decide +kernel
theorem kb_49 : (Int8.ofInt 49).toInt32 = 49 := by decide +kernel
theorem kb_53 : (Int8.ofInt 53).toInt32 = 53 := by decide +kernel
theorem kb_57 : (Int8.ofInt 57).toInt32 = 57 := by decide +kernel
theorem kb_59 : (Int8.ofInt 59).toInt32 = 59 := by decide +kernel
theorem kb_6 : (Int8.ofInt 6).toInt32 = 6 := by decide +kernel
theorem kb_60 : (Int8.ofInt 60).toInt32 = 60 := by decide +kernel
theorem kb_61 : (Int8.ofInt 61).toInt32 = 61 := by decide +kernel
theorem kb_62 : (Int8.ofInt 62).toInt32 = 62 := by decide +kernel
theorem kb_63 : (Int8.ofInt 63).toInt32 = 63 := by decide +kernel
theorem kb_7 : (Int8.ofInt 7).toInt32 = 7 := by decide +kernel
theorem kb_79 : (Int8.ofInt 79).toInt32 = 79 := by decide +kernel
theorem kb_8 : (Int8.ofInt 8).toInt32 = 8 := by decide +kernel
theorem kb_80 : (Int8.ofInt 80).toInt32 = 80 := by decide +kernel
theorem kb_9 : (Int8.ofInt 9).toInt32 = 9 := by decide +kernel
theorem kb_97 : (Int8.ofInt 97).toInt32 = 97 := by decide +kernel
theorem kb_99 : (Int8.ofInt 99).toInt32 = 99 := by decide +kernel
theorem kb_m100 : (Int8.ofInt (-100)).toInt32 = (-100) := by decide +kernel
theorem kb_m2 : (Int8.ofInt (-2)).toInt32 = (-2) := by decide +kernel
theorem kb_m3 : (Int8.ofInt (-3)).toInt32 = (-3) := by decide +kernel
theorem kb_m99 : (Int8.ofInt (-99)).toInt32 = (-99) := by decide +kernel
theorem kc_0 : Int32.ofInt 0 = 0 := by decide +kernel
theorem kc_1 : Int32.ofInt 1 = 1 := by decide +kernel
theorem kc_2 : Int32.ofInt 2 = 2 := by decide +kernel
theorem kc_3 : Int32.ofInt 3 = 3 := by decide +kernel
theorem kc_4 : Int32.ofInt 4 = 4 := by decide +kernel
theorem kc_5 : Int32.ofInt 5 = 5 := by decide +kernel
theorem kc_m1 : Int32.ofInt (-1) = (-1) := by decide +kernel
theorem kl_0 : Int64.ofNat ((0 : Fin 2) : Nat) = 0 := by decide +kernel
theorem kl_1 : Int64.ofNat ((1 : Fin 2) : Nat) = 1 := by decide +kernel
theorem ks_1000 : (Int16.ofInt 1000).toInt32 = 1000 := by decide +kernel
theorem ks_12345 : (Int16.ofInt 12345).toInt32 = 12345 := by decide +kernel
theorem ks_200 : (Int16.ofInt 200).toInt32 = 200 := by decide +kernel
theorem ks_2000 : (Int16.ofInt 2000).toInt32 = 2000 := by decide +kernel
theorem ks_255 : (Int16.ofInt 255).toInt32 = 255 := by decide +kernel
theorem ks_256 : (Int16.ofInt 256).toInt32 = 256 := by decide +kernel
theorem ks_286 : (Int16.ofInt 286).toInt32 = 286 := by decide +kernel
theorem ks_3000 : (Int16.ofInt 3000).toInt32 = 3000 := by decide +kernel
theorem ks_840 : (Int16.ofInt 840).toInt32 = 840 := by decide +kernel
theorem ks_999 : (Int16.ofInt 999).toInt32 = 999 := by decide +kernel
theorem ks_9999 : (Int16.ofInt 9999).toInt32 = 9999 := by decide +kernel
theorem ks_m10000 : (Int16.ofInt (-10000)).toInt32 = (-10000) := by decide +kernel
theorem ks_m200 : (Int16.ofInt (-200)).toInt32 = (-200) := by decide +kernel
theorem ks_m999 : (Int16.ofInt (-999)).toInt32 = (-999) := by decide +kernel
theorem flX0_11 : zFl RX0 11 0 0 := ⟨RX0, TX0, 4, rfl, by decide, uX0, Or.inl m_201⟩
theorem flX0_15 : zFl RX0 15 0 1 := ⟨RX0, TX0, 4, rfl, by decide, uX0, Or.inl m_203⟩
theorem flX0_18 : zFl RX0 18 0 2 := ⟨RX0, TX0, 4, rfl, by decide, uX0, Or.inl m_205⟩
theorem flX0_21 : zFl RX0 21 0 3 := ⟨RX0, TX0, 4, rfl, by decide, uX0, Or.inl m_207⟩
theorem flX0_25 : zFl RX0 25 9 1 := ⟨RX9, TX9, 2, rfl, by decide, uX9, Or.inr ⟨_, List.mem_of_getElem? (i := 1) rfl⟩⟩
theorem flX10_15 : zFl RX10 15 10 1 := ⟨RX10, TX10, 6, rfl, by decide, uX10, Or.inl m_103⟩
theorem flX10_18 : zFl RX10 18 10 2 := ⟨RX10, TX10, 6, rfl, by decide, uX10, Or.inl m_105⟩
theorem flX10_21 : zFl RX10 21 10 3 := ⟨RX10, TX10, 6, rfl, by decide, uX10, Or.inl m_107⟩
theorem flX10_24 : zFl RX10 24 10 4 := ⟨RX10, TX10, 6, rfl, by decide, uX10, Or.inl m_109⟩
theorem flX10_28 : zFl RX10 28 10 5 := ⟨RX10, TX10, 6, rfl, by decide, uX10, Or.inl m_111⟩
theorem flX10_9 : zFl RX10 9 10 0 := ⟨RX10, TX10, 6, rfl, by decide, uX10, Or.inl m_101⟩
theorem flX11_10 : zFl RX11 10 11 0 := ⟨RX11, TX11, 19, rfl, by decide, uX11, Or.inl m_271⟩
theorem flX11_102 : zFl RX11 102 11 15 := ⟨RX11, TX11, 19, rfl, by decide, uX11, Or.inl m_286⟩
theorem flX11_106 : zFl RX11 106 11 16 := ⟨RX11, TX11, 19, rfl, by decide, uX11, Or.inl m_287⟩
theorem flX11_110 : zFl RX11 110 11 17 := ⟨RX11, TX11, 19, rfl, by decide, uX11, Or.inl m_288⟩
theorem flX11_113 : zFl RX11 113 11 18 := ⟨RX11, TX11, 19, rfl, by decide, uX11, Or.inl m_289⟩
theorem flX11_135 : zFl RX11 135 7 3 := ⟨RX7, TX7, 5, rfl, by decide, uX7, Or.inr ⟨_, List.mem_of_getElem? (i := 9) rfl⟩⟩
theorem flX11_148 : zFl RX11 148 7 2 := ⟨RX7, TX7, 5, rfl, by decide, uX7, Or.inr ⟨_, List.mem_of_getElem? (i := 8) rfl⟩⟩
theorem flX11_151 : zFl RX11 151 7 4 := ⟨RX7, TX7, 5, rfl, by decide, uX7, Or.inr ⟨_, List.mem_of_getElem? (i := 10) rfl⟩⟩
theorem flX11_176 : zFl RX11 176 7 0 := ⟨RX7, TX7, 5, rfl, by decide, uX7, Or.inr ⟨_, List.mem_of_getElem? (i := 6) rfl⟩⟩
theorem flX11_179 : zFl RX11 179 7 1 := ⟨RX7, TX7, 5, rfl, by decide, uX7, Or.inr ⟨_, List.mem_of_getElem? (i := 7) rfl⟩⟩
theorem flX11_188 : zFl RX11 188 10 2 := ⟨RX10, TX10, 6, rfl, by decide, uX10, Or.inr ⟨_, List.mem_of_getElem? (i := 13) rfl⟩⟩
theorem flX11_19 : zFl RX11 19 11 1 := ⟨RX11, TX11, 19, rfl, by decide, uX11, Or.inl m_272⟩
theorem flX11_191 : zFl RX11 191 10 3 := ⟨RX10, TX10, 6, rfl, by decide, uX10, Or.inr ⟨_, List.mem_of_getElem? (i := 14) rfl⟩⟩
theorem flX11_248 : zFl RX11 248 0 3 := ⟨RX0, TX0, 4, rfl, by decide, uX0, Or.inr ⟨_, List.mem_of_getElem? (i := 22) rfl⟩⟩
theorem flX11_251 : zFl RX11 251 0 0 := ⟨RX0, TX0, 4, rfl, by decide, uX0, Or.inr ⟨_, List.mem_of_getElem? (i := 19) rfl⟩⟩
theorem flX11_254 : zFl RX11 254 0 1 := ⟨RX0, TX0, 4, rfl, by decide, uX0, Or.inr ⟨_, List.mem_of_getElem? (i := 20) rfl⟩⟩
theorem flX11_257 : zFl RX11 257 0 2 := ⟨RX0, TX0, 4, rfl, by decide, uX0, Or.inr ⟨_, List.mem_of_getElem? (i := 21) rfl⟩⟩
theorem flX11_26 : zFl RX11 26 11 2 := ⟨RX11, TX11, 19, rfl, by decide, uX11, Or.inl m_273⟩
theorem flX11_268 : zFl RX11 268 2 2 := ⟨RX2, TX2, 3, rfl, by decide, uX2, Or.inr ⟨_, List.mem_of_getElem? (i := 17) rfl⟩⟩
theorem flX11_289 : zFl RX11 289 8 0 := ⟨RX8, TX8, 3, rfl, by decide, uX8, Or.inr ⟨_, List.mem_of_getElem? (i := 26) rfl⟩⟩
theorem flX11_295 : zFl RX11 295 6 0 := ⟨RX6, TX6, 3, rfl, by decide, uX6, Or.inr ⟨_, List.mem_of_getElem? (i := 23) rfl⟩⟩
theorem flX11_298 : zFl RX11 298 6 1 := ⟨RX6, TX6, 3, rfl, by decide, uX6, Or.inr ⟨_, List.mem_of_getElem? (i := 24) rfl⟩⟩
theorem flX11_313 : zFl RX11 313 6 2 := ⟨RX6, TX6, 3, rfl, by decide, uX6, Or.inr ⟨_, List.mem_of_getElem? (i := 25) rfl⟩⟩
theorem flX11_33 : zFl RX11 33 11 3 := ⟨RX11, TX11, 19, rfl, by decide, uX11, Or.inl m_274⟩
theorem flX11_330 : zFl RX11 330 1 2 := ⟨RX1, TX1, 3, rfl, by decide, uX1, Or.inr ⟨_, List.mem_of_getElem? (i := 27) rfl⟩⟩
theorem flX11_37 : zFl RX11 37 11 4 := ⟨RX11, TX11, 19, rfl, by decide, uX11, Or.inl m_275⟩
theorem flX11_394 : zFl RX11 394 10 4 := ⟨RX10, TX10, 6, rfl, by decide, uX10, Or.inr ⟨_, List.mem_of_getElem? (i := 15) rfl⟩⟩
theorem flX11_397 : zFl RX11 397 10 5 := ⟨RX10, TX10, 6, rfl, by decide, uX10, Or.inr ⟨_, List.mem_of_getElem? (i := 16) rfl⟩⟩
theorem flX11_400 : zFl RX11 400 3 1 := ⟨RX3, TX3, 2, rfl, by decide, uX3, Or.inr ⟨_, List.mem_of_getElem? (i := 5) rfl⟩⟩
theorem flX11_401 : zFl RX11 401 9 1 := ⟨RX9, TX9, 2, rfl, by decide, uX9, Or.inr ⟨_, List.mem_of_getElem? (i := 3) rfl⟩⟩
theorem flX11_43 : zFl RX11 43 11 5 := ⟨RX11, TX11, 19, rfl, by decide, uX11, Or.inl m_276⟩
theorem flX11_47 : zFl RX11 47 11 6 := ⟨RX11, TX11, 19, rfl, by decide, uX11, Or.inl m_277⟩
theorem flX11_51 : zFl RX11 51 11 7 := ⟨RX11, TX11, 19, rfl, by decide, uX11, Or.inl m_278⟩
theorem flX11_58 : zFl RX11 58 11 8 := ⟨RX11, TX11, 19, rfl, by decide, uX11, Or.inl m_279⟩
theorem flX11_62 : zFl RX11 62 11 9 := ⟨RX11, TX11, 19, rfl, by decide, uX11, Or.inl m_280⟩
theorem flX11_70 : zFl RX11 70 11 10 := ⟨RX11, TX11, 19, rfl, by decide, uX11, Or.inl m_281⟩
theorem flX11_77 : zFl RX11 77 11 11 := ⟨RX11, TX11, 19, rfl, by decide, uX11, Or.inl m_282⟩
theorem flX11_84 : zFl RX11 84 11 12 := ⟨RX11, TX11, 19, rfl, by decide, uX11, Or.inl m_283⟩
theorem flX11_91 : zFl RX11 91 11 13 := ⟨RX11, TX11, 19, rfl, by decide, uX11, Or.inl m_284⟩
theorem flX11_98 : zFl RX11 98 11 14 := ⟨RX11, TX11, 19, rfl, by decide, uX11, Or.inl m_285⟩
theorem flX12_102 : zFl RX12 102 12 9 := ⟨RX12, TX12, 41, rfl, by decide, uX12, Or.inl m_1111⟩
theorem flX12_105 : zFl RX12 105 12 13 := ⟨RX12, TX12, 41, rfl, by decide, uX12, Or.inl m_1115⟩
theorem flX12_108 : zFl RX12 108 12 14 := ⟨RX12, TX12, 41, rfl, by decide, uX12, Or.inl m_1116⟩
theorem flX12_111 : zFl RX12 111 12 15 := ⟨RX12, TX12, 41, rfl, by decide, uX12, Or.inl m_1117⟩
theorem flX12_114 : zFl RX12 114 12 16 := ⟨RX12, TX12, 41, rfl, by decide, uX12, Or.inl m_1118⟩
theorem flX12_117 : zFl RX12 117 12 17 := ⟨RX12, TX12, 41, rfl, by decide, uX12, Or.inl m_1119⟩
theorem flX12_13 : zFl RX12 13 12 3 := ⟨RX12, TX12, 41, rfl, by decide, uX12, Or.inl m_1105⟩
theorem flX12_144 : zFl RX12 144 12 25 := ⟨RX12, TX12, 41, rfl, by decide, uX12, Or.inl m_1127⟩
theorem flX12_147 : zFl RX12 147 12 37 := ⟨RX12, TX12, 41, rfl, by decide, uX12, Or.inl m_1139⟩
theorem flX12_17 : zFl RX12 17 12 4 := ⟨RX12, TX12, 41, rfl, by decide, uX12, Or.inl m_1106⟩
theorem flX12_186 : zFl RX12 186 12 22 := ⟨RX12, TX12, 41, rfl, by decide, uX12, Or.inl m_1124⟩
theorem flX12_193 : zFl RX12 193 12 21 := ⟨RX12, TX12, 41, rfl, by decide, uX12, Or.inl m_1123⟩
theorem flX12_20 : zFl RX12 20 12 5 := ⟨RX12, TX12, 41, rfl, by decide, uX12, Or.inl m_1107⟩
theorem flX12_23 : zFl RX12 23 12 6 := ⟨RX12, TX12, 41, rfl, by decide, uX12, Or.inl m_1108⟩
theorem flX12_26 : zFl RX12 26 12 7 := ⟨RX12, TX12, 41, rfl, by decide, uX12, Or.inl m_1109⟩
theorem flX12_29 : zFl RX12 29 12 8 := ⟨RX12, TX12, 41, rfl, by decide, uX12, Or.inl m_1110⟩
theorem flX12_309 : zFl RX12 309 12 32 := ⟨RX12, TX12, 41, rfl, by decide, uX12, Or.inl m_1134⟩
theorem flX12_312 : zFl RX12 312 12 31 := ⟨RX12, TX12, 41, rfl, by decide, uX12, Or.inl m_1133⟩
theorem flX12_33 : zFl RX12 33 12 10 := ⟨RX12, TX12, 41, rfl, by decide, uX12, Or.inl m_1112⟩
theorem flX12_356 : zFl RX12 356 12 36 := ⟨RX12, TX12, 41, rfl, by decide, uX12, Or.inl m_1138⟩
theorem flX12_37 : zFl RX12 37 12 18 := ⟨RX12, TX12, 41, rfl, by decide, uX12, Or.inl m_1120⟩
theorem flX12_40 : zFl RX12 40 12 19 := ⟨RX12, TX12, 41, rfl, by decide, uX12, Or.inl m_1121⟩
theorem flX12_43 : zFl RX12 43 12 20 := ⟨RX12, TX12, 41, rfl, by decide, uX12, Or.inl m_1122⟩
theorem flX12_46 : zFl RX12 46 12 23 := ⟨RX12, TX12, 41, rfl, by decide, uX12, Or.inl m_1125⟩
theorem flX12_49 : zFl RX12 49 12 24 := ⟨RX12, TX12, 41, rfl, by decide, uX12, Or.inl m_1126⟩
theorem flX12_52 : zFl RX12 52 12 26 := ⟨RX12, TX12, 41, rfl, by decide, uX12, Or.inl m_1128⟩
theorem flX12_55 : zFl RX12 55 12 27 := ⟨RX12, TX12, 41, rfl, by decide, uX12, Or.inl m_1129⟩
theorem flX12_58 : zFl RX12 58 12 28 := ⟨RX12, TX12, 41, rfl, by decide, uX12, Or.inl m_1130⟩
theorem flX12_61 : zFl RX12 61 12 29 := ⟨RX12, TX12, 41, rfl, by decide, uX12, Or.inl m_1131⟩
theorem flX12_64 : zFl RX12 64 12 30 := ⟨RX12, TX12, 41, rfl, by decide, uX12, Or.inl m_1132⟩
theorem flX12_67 : zFl RX12 67 12 33 := ⟨RX12, TX12, 41, rfl, by decide, uX12, Or.inl m_1135⟩
theorem flX12_70 : zFl RX12 70 12 34 := ⟨RX12, TX12, 41, rfl, by decide, uX12, Or.inl m_1136⟩
theorem flX12_73 : zFl RX12 73 12 35 := ⟨RX12, TX12, 41, rfl, by decide, uX12, Or.inl m_1137⟩
theorem flX12_76 : zFl RX12 76 12 38 := ⟨RX12, TX12, 41, rfl, by decide, uX12, Or.inl m_1140⟩
theorem flX12_79 : zFl RX12 79 12 39 := ⟨RX12, TX12, 41, rfl, by decide, uX12, Or.inl m_1141⟩
theorem flX12_83 : zFl RX12 83 12 40 := ⟨RX12, TX12, 41, rfl, by decide, uX12, Or.inl m_1142⟩
theorem flX12_86 : zFl RX12 86 12 12 := ⟨RX12, TX12, 41, rfl, by decide, uX12, Or.inl m_1114⟩
theorem flX12_89 : zFl RX12 89 12 11 := ⟨RX12, TX12, 41, rfl, by decide, uX12, Or.inl m_1113⟩
theorem flX12_9 : zFl RX12 9 12 0 := ⟨RX12, TX12, 41, rfl, by decide, uX12, Or.inl m_1102⟩
theorem flX12_92 : zFl RX12 92 12 1 := ⟨RX12, TX12, 41, rfl, by decide, uX12, Or.inl m_1103⟩
theorem flX12_99 : zFl RX12 99 12 2 := ⟨RX12, TX12, 41, rfl, by decide, uX12, Or.inl m_1104⟩
theorem flX1_13 : zFl RX1 13 1 1 := ⟨RX1, TX1, 3, rfl, by decide, uX1, Or.inl m_261⟩
theorem flX1_16 : zFl RX1 16 1 2 := ⟨RX1, TX1, 3, rfl, by decide, uX1, Or.inl m_262⟩
theorem flX1_7 : zFl RX1 7 1 0 := ⟨RX1, TX1, 3, rfl, by decide, uX1, Or.inl m_260⟩
theorem flX2_11 : zFl RX2 11 2 0 := ⟨RX2, TX2, 3, rfl, by decide, uX2, Or.inl m_135⟩
theorem flX2_15 : zFl RX2 15 2 1 := ⟨RX2, TX2, 3, rfl, by decide, uX2, Or.inl m_136⟩
theorem flX2_19 : zFl RX2 19 2 2 := ⟨RX2, TX2, 3, rfl, by decide, uX2, Or.inl m_137⟩
theorem flX3_13 : zFl RX3 13 3 1 := ⟨RX3, TX3, 2, rfl, by decide, uX3, Or.inl m_60⟩
theorem flX3_7 : zFl RX3 7 3 0 := ⟨RX3, TX3, 2, rfl, by decide, uX3, Or.inl m_58⟩
theorem flX4_15 : zFl RX4 15 4 1 := ⟨RX4, TX4, 4, rfl, by decide, uX4, Or.inl m_162⟩
theorem flX4_18 : zFl RX4 18 4 2 := ⟨RX4, TX4, 4, rfl, by decide, uX4, Or.inl m_163⟩
theorem flX4_21 : zFl RX4 21 4 3 := ⟨RX4, TX4, 4, rfl, by decide, uX4, Or.inl m_164⟩
theorem flX4_9 : zFl RX4 9 4 0 := ⟨RX4, TX4, 4, rfl, by decide, uX4, Or.inl m_161⟩
theorem flX5_15 : zFl RX5 15 5 3 := ⟨RX5, TX5, 4, rfl, by decide, uX5, Or.inl m_185⟩
theorem flX5_18 : zFl RX5 18 5 0 := ⟨RX5, TX5, 4, rfl, by decide, uX5, Or.inl m_182⟩
theorem flX5_22 : zFl RX5 22 5 1 := ⟨RX5, TX5, 4, rfl, by decide, uX5, Or.inl m_183⟩
theorem flX5_31 : zFl RX5 31 9 1 := ⟨RX9, TX9, 2, rfl, by decide, uX9, Or.inr ⟨_, List.mem_of_getElem? (i := 2) rfl⟩⟩
theorem flX5_9 : zFl RX5 9 5 2 := ⟨RX5, TX5, 4, rfl, by decide, uX5, Or.inl m_184⟩
theorem flX6_15 : zFl RX6 15 6 1 := ⟨RX6, TX6, 3, rfl, by decide, uX6, Or.inl m_226⟩
theorem flX6_18 : zFl RX6 18 6 2 := ⟨RX6, TX6, 3, rfl, by decide, uX6, Or.inl m_228⟩
theorem flX7_15 : zFl RX7 15 7 1 := ⟨RX7, TX7, 5, rfl, by decide, uX7, Or.inl m_76⟩
theorem flX7_18 : zFl RX7 18 7 2 := ⟨RX7, TX7, 5, rfl, by decide, uX7, Or.inl m_78⟩
theorem flX7_21 : zFl RX7 21 7 3 := ⟨RX7, TX7, 5, rfl, by decide, uX7, Or.inl m_80⟩
theorem flX7_25 : zFl RX7 25 7 4 := ⟨RX7, TX7, 5, rfl, by decide, uX7, Or.inl m_82⟩
theorem flX7_28 : zFl RX7 28 9 1 := ⟨RX9, TX9, 2, rfl, by decide, uX9, Or.inr ⟨_, List.mem_of_getElem? (i := 0) rfl⟩⟩
theorem flX7_9 : zFl RX7 9 7 0 := ⟨RX7, TX7, 5, rfl, by decide, uX7, Or.inl m_74⟩
theorem flX8_15 : zFl RX8 15 8 1 := ⟨RX8, TX8, 3, rfl, by decide, uX8, Or.inl m_245⟩
theorem flX8_18 : zFl RX8 18 8 2 := ⟨RX8, TX8, 3, rfl, by decide, uX8, Or.inl m_246⟩
theorem flX8_9 : zFl RX8 9 8 0 := ⟨RX8, TX8, 3, rfl, by decide, uX8, Or.inl m_243⟩
theorem flX9_15 : zFl RX9 15 9 1 := ⟨RX9, TX9, 2, rfl, by decide, uX9, Or.inl m_41⟩
theorem flX9_9 : zFl RX9 9 9 0 := ⟨RX9, TX9, 2, rfl, by decide, uX9, Or.inl m_40⟩
theorem fpX0_21 : zFp RX0 21 0 3 (.int) := ⟨RX0, TX0, 4, tyX0, rfl, by decide, uX0, Or.inl m_207, tyX0_ok, nmX0, rfl, by decide +kernel⟩
theorem fpX10_24 : zFp RX10 24 10 4 (.int) := ⟨RX10, TX10, 6, tyX10, rfl, by decide, uX10, Or.inl m_109, tyX10_ok, nmX10, rfl, by decide +kernel⟩
theorem fpX10_28 : zFp RX10 28 10 5 (.int) := ⟨RX10, TX10, 6, tyX10, rfl, by decide, uX10, Or.inl m_111, tyX10_ok, nmX10, rfl, by decide +kernel⟩
theorem fpX11_106 : zFp RX11 106 11 16 (.int) := ⟨RX11, TX11, 19, tyX11, rfl, by decide, uX11, Or.inl m_287, tyX11_ok, nmX11, rfl, by decide +kernel⟩
theorem fpX11_110 : zFp RX11 110 11 17 (.int) := ⟨RX11, TX11, 19, tyX11, rfl, by decide, uX11, Or.inl m_288, tyX11_ok, nmX11, rfl, by decide +kernel⟩
theorem fpX11_113 : zFp RX11 113 11 18 (.int) := ⟨RX11, TX11, 19, tyX11, rfl, by decide, uX11, Or.inl m_289, tyX11_ok, nmX11, rfl, by decide +kernel⟩
theorem fpX11_135 : zFp RX11 135 7 3 (.int) := ⟨RX7, TX7, 5, tyX7, rfl, by decide, uX7, Or.inr ⟨_, List.mem_of_getElem? (i := 9) rfl⟩, tyX7_ok, nmX7, rfl, by decide +kernel⟩
theorem fpX11_151 : zFp RX11 151 7 4 (.int) := ⟨RX7, TX7, 5, tyX7, rfl, by decide, uX7, Or.inr ⟨_, List.mem_of_getElem? (i := 10) rfl⟩, tyX7_ok, nmX7, rfl, by decide +kernel⟩
theorem fpX11_268 : zFp RX11 268 2 2 (.int) := ⟨RX2, TX2, 3, tyX2, rfl, by decide, uX2, Or.inr ⟨_, List.mem_of_getElem? (i := 17) rfl⟩, tyX2_ok, nmX2, rfl, by decide +kernel⟩
theorem fpX11_397 : zFp RX11 397 10 5 (.int) := ⟨RX10, TX10, 6, tyX10, rfl, by decide, uX10, Or.inr ⟨_, List.mem_of_getElem? (i := 16) rfl⟩, tyX10_ok, nmX10, rfl, by decide +kernel⟩
theorem fpX12_102 : zFp RX12 102 12 9 (.int) := ⟨RX12, TX12, 41, tyX12, rfl, by decide, uX12, Or.inl m_1111, tyX12_ok, nmX12, rfl, by decide +kernel⟩
theorem fpX12_105 : zFp RX12 105 12 13 (.array .byte) := ⟨RX12, TX12, 41, tyX12, rfl, by decide, uX12, Or.inl m_1115, tyX12_ok, nmX12, rfl, by decide +kernel⟩
theorem fpX12_108 : zFp RX12 108 12 14 (.int) := ⟨RX12, TX12, 41, tyX12, rfl, by decide, uX12, Or.inl m_1116, tyX12_ok, nmX12, rfl, by decide +kernel⟩
theorem fpX12_111 : zFp RX12 111 12 15 (.int) := ⟨RX12, TX12, 41, tyX12, rfl, by decide, uX12, Or.inl m_1117, tyX12_ok, nmX12, rfl, by decide +kernel⟩
theorem fpX12_114 : zFp RX12 114 12 16 (.int) := ⟨RX12, TX12, 41, tyX12, rfl, by decide, uX12, Or.inl m_1118, tyX12_ok, nmX12, rfl, by decide +kernel⟩
theorem fpX12_117 : zFp RX12 117 12 17 (.int) := ⟨RX12, TX12, 41, tyX12, rfl, by decide, uX12, Or.inl m_1119, tyX12_ok, nmX12, rfl, by decide +kernel⟩
theorem fpX12_13 : zFp RX12 13 12 3 (.int) := ⟨RX12, TX12, 41, tyX12, rfl, by decide, uX12, Or.inl m_1105, tyX12_ok, nmX12, rfl, by decide +kernel⟩
theorem fpX12_144 : zFp RX12 144 12 25 (.int) := ⟨RX12, TX12, 41, tyX12, rfl, by decide, uX12, Or.inl m_1127, tyX12_ok, nmX12, rfl, by decide +kernel⟩
theorem fpX12_147 : zFp RX12 147 12 37 (.int) := ⟨RX12, TX12, 41, tyX12, rfl, by decide, uX12, Or.inl m_1139, tyX12_ok, nmX12, rfl, by decide +kernel⟩
theorem fpX12_17 : zFp RX12 17 12 4 (.int) := ⟨RX12, TX12, 41, tyX12, rfl, by decide, uX12, Or.inl m_1106, tyX12_ok, nmX12, rfl, by decide +kernel⟩
theorem fpX12_186 : zFp RX12 186 12 22 (.boolean) := ⟨RX12, TX12, 41, tyX12, rfl, by decide, uX12, Or.inl m_1124, tyX12_ok, nmX12, rfl, by decide +kernel⟩
theorem fpX12_193 : zFp RX12 193 12 21 (.int) := ⟨RX12, TX12, 41, tyX12, rfl, by decide, uX12, Or.inl m_1123, tyX12_ok, nmX12, rfl, by decide +kernel⟩
theorem fpX12_309 : zFp RX12 309 12 32 (.int) := ⟨RX12, TX12, 41, tyX12, rfl, by decide, uX12, Or.inl m_1134, tyX12_ok, nmX12, rfl, by decide +kernel⟩
theorem fpX12_312 : zFp RX12 312 12 31 (.int) := ⟨RX12, TX12, 41, tyX12, rfl, by decide, uX12, Or.inl m_1133, tyX12_ok, nmX12, rfl, by decide +kernel⟩
theorem fpX12_356 : zFp RX12 356 12 36 (.int) := ⟨RX12, TX12, 41, tyX12, rfl, by decide, uX12, Or.inl m_1138, tyX12_ok, nmX12, rfl, by decide +kernel⟩
theorem fpX12_40 : zFp RX12 40 12 19 (.array .byte) := ⟨RX12, TX12, 41, tyX12, rfl, by decide, uX12, Or.inl m_1121, tyX12_ok, nmX12, rfl, by decide +kernel⟩
theorem fpX12_86 : zFp RX12 86 12 12 (.int) := ⟨RX12, TX12, 41, tyX12, rfl, by decide, uX12, Or.inl m_1114, tyX12_ok, nmX12, rfl, by decide +kernel⟩
theorem fpX12_89 : zFp RX12 89 12 11 (.int) := ⟨RX12, TX12, 41, tyX12, rfl, by decide, uX12, Or.inl m_1113, tyX12_ok, nmX12, rfl, by decide +kernel⟩
theorem fpX12_92 : zFp RX12 92 12 1 (.int) := ⟨RX12, TX12, 41, tyX12, rfl, by decide, uX12, Or.inl m_1103, tyX12_ok, nmX12, rfl, by decide +kernel⟩
theorem fpX12_99 : zFp RX12 99 12 2 (.int) := ⟨RX12, TX12, 41, tyX12, rfl, by decide, uX12, Or.inl m_1104, tyX12_ok, nmX12, rfl, by decide +kernel⟩
theorem fpX1_13 : zFp RX1 13 1 1 (.int) := ⟨RX1, TX1, 3, tyX1, rfl, by decide, uX1, Or.inl m_261, tyX1_ok, nmX1, rfl, by decide +kernel⟩
theorem fpX1_16 : zFp RX1 16 1 2 (.int) := ⟨RX1, TX1, 3, tyX1, rfl, by decide, uX1, Or.inl m_262, tyX1_ok, nmX1, rfl, by decide +kernel⟩
theorem fpX1_7 : zFp RX1 7 1 0 (.int) := ⟨RX1, TX1, 3, tyX1, rfl, by decide, uX1, Or.inl m_260, tyX1_ok, nmX1, rfl, by decide +kernel⟩
theorem fpX2_15 : zFp RX2 15 2 1 (.int) := ⟨RX2, TX2, 3, tyX2, rfl, by decide, uX2, Or.inl m_136, tyX2_ok, nmX2, rfl, by decide +kernel⟩
theorem fpX2_19 : zFp RX2 19 2 2 (.int) := ⟨RX2, TX2, 3, tyX2, rfl, by decide, uX2, Or.inl m_137, tyX2_ok, nmX2, rfl, by decide +kernel⟩
theorem fpX3_13 : zFp RX3 13 3 1 (.int) := ⟨RX3, TX3, 2, tyX3, rfl, by decide, uX3, Or.inl m_60, tyX3_ok, nmX3, rfl, by decide +kernel⟩
theorem fpX4_21 : zFp RX4 21 4 3 (.int) := ⟨RX4, TX4, 4, tyX4, rfl, by decide, uX4, Or.inl m_164, tyX4_ok, nmX4, rfl, by decide +kernel⟩
theorem fpX5_15 : zFp RX5 15 5 3 (.int) := ⟨RX5, TX5, 4, tyX5, rfl, by decide, uX5, Or.inl m_185, tyX5_ok, nmX5, rfl, by decide +kernel⟩
theorem fpX5_26 : zFp RX5 26 4 3 (.int) := ⟨RX4, TX4, 4, tyX4, rfl, by decide, uX4, Or.inr ⟨_, List.mem_of_getElem? (i := 18) rfl⟩, tyX4_ok, nmX4, rfl, by decide +kernel⟩
theorem fpX5_9 : zFp RX5 9 5 2 (.int) := ⟨RX5, TX5, 4, tyX5, rfl, by decide, uX5, Or.inl m_184, tyX5_ok, nmX5, rfl, by decide +kernel⟩
theorem fpX9_15 : zFp RX9 15 9 1 (.int) := ⟨RX9, TX9, 2, tyX9, rfl, by decide, uX9, Or.inl m_41, tyX9_ok, nmX9, rfl, by decide +kernel⟩
theorem wcX10_31 : zWC RX10 31 := ⟨m_567, m_160, m_159, m_8⟩
theorem wcX4_31 : zWC RX4 31 := ⟨m_158, m_160, m_159, m_8⟩
theorem wmJ1_38 : zWM_min RJ1 38 := ⟨m_477, m_358, m_15, m_359⟩
theorem wmJ1_92 : zWM_max RJ1 92 := ⟨m_474, m_475, m_15, m_476⟩
theorem wmX0_30 : zWM_min RX0 30 := ⟨m_705, m_358, m_15, m_359⟩
theorem wmX10_58 : zWM_max RX10 58 := ⟨m_804, m_475, m_15, m_476⟩
theorem wmX10_67 : zWM_min RX10 67 := ⟨m_659, m_358, m_15, m_359⟩
theorem wmX11_346 : zWM_max RX11 346 := ⟨m_550, m_475, m_15, m_476⟩
theorem wmX11_410 : zWM_min RX11 410 := ⟨m_549, m_358, m_15, m_359⟩
theorem wmX12_201 : zWM_min RX12 201 := ⟨m_1363, m_358, m_15, m_359⟩
theorem wmX12_206 : zWM_max RX12 206 := ⟨m_1364, m_475, m_15, m_476⟩
theorem wmX2_27 : zWM_min RX2 27 := ⟨m_664, m_358, m_15, m_359⟩
theorem wmX5_36 : zWM_min RX5 36 := ⟨m_407, m_358, m_15, m_359⟩
theorem wmX6_32 : zWM_max RX6 32 := ⟨m_787, m_475, m_15, m_476⟩
theorem wmX7_33 : zWM_min RX7 33 := ⟨m_357, m_358, m_15, m_359⟩
theorem wmX9_19 : zWM_min RX9 19 := ⟨m_393, m_358, m_15, m_359⟩
theorem zdX11_isOf (own : String) (idx : Nat) : zWd own idx yX11_isOf cX11_isOf 2 (some .boolean) 2 := ⟨⟨m_782, m_1, by decide, by decide, by decide +kernel⟩, by decide⟩
theorem wnX6_25 : zWN RX6 25 yX11_isOf cX11_isOf 2 (some .boolean) 2 := ⟨zdX11_isOf _ _, m_781, _, List.mem_of_getElem? (i := 7) rfl⟩
theorem wnX7_47 : zWN RX7 47 yX11_isOf cX11_isOf 2 (some .boolean) 2 := ⟨zdX11_isOf _ _, m_781, _, List.mem_of_getElem? (i := 8) rfl⟩
theorem zdJ1_indexOf_4cfef (own : String) (idx : Nat) : zWd own idx yJ1_indexOf_4cfef cJ1_indexOf_4cfef 4 (some .int) 4 := ⟨⟨m_470, m_17, by decide, by decide, by decide +kernel⟩, by decide⟩
theorem wsJ0_637 : zWS RJ0 637 yJ1_indexOf_4cfef cJ1_indexOf_4cfef 4 (some .int) 4 := ⟨zdJ1_indexOf_4cfef _ _, m_468, m_469⟩
theorem zdJ1_canEncode_9a6ad (own : String) (idx : Nat) : zWd own idx yJ1_canEncode_9a6ad cJ1_canEncode_9a6ad 1 (some .boolean) 1 := ⟨⟨m_473, m_17, by decide, by decide, by decide +kernel⟩, by decide⟩
theorem wsJ1_88 : zWS RJ1 88 yJ1_canEncode_9a6ad cJ1_canEncode_9a6ad 1 (some .boolean) 1 := ⟨zdJ1_canEncode_9a6ad _ _, m_471, m_472⟩
theorem zdJ1_indexOfChar_4cfef (own : String) (idx : Nat) : zWd own idx yJ1_indexOfChar_4cfef cJ1_indexOfChar_4cfef 6 (some .int) 4 := ⟨⟨m_480, m_17, by decide, by decide, by decide +kernel⟩, by decide⟩
theorem wsJ1_95 : zWS RJ1 95 yJ1_indexOfChar_4cfef cJ1_indexOfChar_4cfef 6 (some .int) 4 := ⟨zdJ1_indexOfChar_4cfef _ _, m_478, m_479⟩
theorem zdX0_digitsOf (own : String) (idx : Nat) : zWd own idx yX0_digitsOf cX0_digitsOf 1 (some .int) 1 := ⟨⟨m_709, m_10, by decide, by decide, by decide +kernel⟩, by decide⟩
theorem wsX0_40 : zWS RX0 40 yX0_digitsOf cX0_digitsOf 1 (some .int) 1 := ⟨zdX0_digitsOf _ _, m_707, m_708⟩
theorem zdX0_readMarks (own : String) (idx : Nat) : zWd own idx yX0_readMarks cX0_readMarks 7 (some .int) 3 := ⟨⟨m_712, m_10, by decide, by decide, by decide +kernel⟩, by decide⟩
theorem wsX0_43 : zWS RX0 43 yX0_readMarks cX0_readMarks 7 (some .int) 3 := ⟨zdX0_readMarks _ _, m_710, m_711⟩
theorem zdJ6_bitCount_0f7a4 (own : String) (idx : Nat) : zWd own idx yJ6_bitCount_0f7a4 cJ6_bitCount_0f7a4 1 (some .int) 1 := ⟨⟨m_589, m_25, by decide, by decide, by decide +kernel⟩, by decide⟩
theorem wsX0_47 : zWS RX0 47 yJ6_bitCount_0f7a4 cJ6_bitCount_0f7a4 1 (some .int) 1 := ⟨zdJ6_bitCount_0f7a4 _ _, m_713, m_588⟩
theorem wsX10_49 : zWS RX10 49 yJ6_bitCount_0f7a4 cJ6_bitCount_0f7a4 1 (some .int) 1 := ⟨zdJ6_bitCount_0f7a4 _ _, m_587, m_588⟩
theorem zdX11_sheetEntry (own : String) (idx : Nat) : zWd own idx yX11_sheetEntry cX11_sheetEntry 3 (some .int) 2 := ⟨⟨m_545, m_1, by decide, by decide, by decide +kernel⟩, by decide⟩
theorem wsX11_209 : zWS RX11 209 yX11_sheetEntry cX11_sheetEntry 3 (some .int) 2 := ⟨zdX11_sheetEntry _ _, m_543, m_544⟩
theorem zdX11_isSpan (own : String) (idx : Nat) : zWd own idx yX11_isSpan cX11_isSpan 1 (some .boolean) 1 := ⟨⟨m_650, m_1, by decide, by decide, by decide +kernel⟩, by decide⟩
theorem wsX11_217 : zWS RX11 217 yX11_isSpan cX11_isSpan 1 (some .boolean) 1 := ⟨zdX11_isSpan _ _, m_648, m_649⟩
theorem wsX11_240 : zWS RX11 240 yJ6_bitCount_0f7a4 cJ6_bitCount_0f7a4 1 (some .int) 1 := ⟨zdJ6_bitCount_0f7a4 _ _, m_627, m_588⟩
theorem zdX11_isDescription (own : String) (idx : Nat) : zWd own idx yX11_isDescription cX11_isDescription 1 (some .boolean) 1 := ⟨⟨m_613, m_1, by decide, by decide, by decide +kernel⟩, by decide⟩
theorem wsX11_269 : zWS RX11 269 yX11_isDescription cX11_isDescription 1 (some .boolean) 1 := ⟨zdX11_isDescription _ _, m_611, m_612⟩
theorem zdX11_toldMatch (own : String) (idx : Nat) : zWd own idx yX11_toldMatch cX11_toldMatch 1 (some .int) 1 := ⟨⟨m_728, m_1, by decide, by decide, by decide +kernel⟩, by decide⟩
theorem wsX11_276 : zWS RX11 276 yX11_toldMatch cX11_toldMatch 1 (some .int) 1 := ⟨zdX11_toldMatch _ _, m_726, m_727⟩
theorem zdX11_putBetween (own : String) (idx : Nat) : zWd own idx yX11_putBetween cX11_putBetween 3 (some .int) 3 := ⟨⟨m_548, m_1, by decide, by decide, by decide +kernel⟩, by decide⟩
theorem wsX11_301 : zWS RX11 301 yX11_putBetween cX11_putBetween 3 (some .int) 3 := ⟨zdX11_putBetween _ _, m_546, m_547⟩
theorem wsX11_339 : zWS RX11 339 yX11_isOf cX11_isOf 2 (some .boolean) 2 := ⟨zdX11_isOf _ _, m_864, m_781⟩
theorem zdX11_isPlace (own : String) (idx : Nat) : zWd own idx yX11_isPlace cX11_isPlace 1 (some .boolean) 1 := ⟨⟨m_578, m_1, by decide, by decide, by decide +kernel⟩, by decide⟩
theorem wsX11_366 : zWS RX11 366 yX11_isPlace cX11_isPlace 1 (some .boolean) 1 := ⟨zdX11_isPlace _ _, m_576, m_577⟩
theorem zdJ9_floorMod_7cf53 (own : String) (idx : Nat) : zWd own idx yJ9_floorMod_7cf53 cJ9_floorMod_7cf53 3 (some .int) 2 := ⟨⟨m_924, m_15, by decide, by decide, by decide +kernel⟩, by decide⟩
theorem wsX11_369 : zWS RX11 369 yJ9_floorMod_7cf53 cJ9_floorMod_7cf53 3 (some .int) 2 := ⟨zdJ9_floorMod_7cf53 _ _, m_922, m_923⟩
theorem zdX11_power (own : String) (idx : Nat) : zWd own idx yX11_power cX11_power 6 (some .long) 2 := ⟨⟨m_960, m_1, by decide, by decide, by decide +kernel⟩, by decide⟩
theorem wsX11_381 : zWS RX11 381 yX11_power cX11_power 6 (some .long) 2 := ⟨zdX11_power _ _, m_958, m_959⟩
theorem zdX11_isBestWait (own : String) (idx : Nat) : zWd own idx yX11_isBestWait cX11_isBestWait 6 (some .boolean) 4 := ⟨⟨m_972, m_1, by decide, by decide, by decide +kernel⟩, by decide⟩
theorem wsX11_387 : zWS RX11 387 yX11_isBestWait cX11_isBestWait 6 (some .boolean) 4 := ⟨zdX11_isBestWait _ _, m_970, m_971⟩
theorem zdX11_isPerson (own : String) (idx : Nat) : zWd own idx yX11_isPerson cX11_isPerson 1 (some .boolean) 1 := ⟨⟨m_595, m_1, by decide, by decide, by decide +kernel⟩, by decide⟩
theorem wsX11_422 : zWS RX11 422 yX11_isPerson cX11_isPerson 1 (some .boolean) 1 := ⟨zdX11_isPerson _ _, m_593, m_594⟩
theorem zdX11_isSomebody (own : String) (idx : Nat) : zWd own idx yX11_isSomebody cX11_isSomebody 1 (some .boolean) 1 := ⟨⟨m_610, m_1, by decide, by decide, by decide +kernel⟩, by decide⟩
theorem wsX11_428 : zWS RX11 428 yX11_isSomebody cX11_isSomebody 1 (some .boolean) 1 := ⟨zdX11_isSomebody _ _, m_608, m_609⟩
theorem zdX11_restsGain (own : String) (idx : Nat) : zWd own idx yX11_restsGain cX11_restsGain 5 (some .int) 4 := ⟨⟨m_975, m_1, by decide, by decide, by decide +kernel⟩, by decide⟩
theorem wsX11_470 : zWS RX11 470 yX11_restsGain cX11_restsGain 5 (some .int) 4 := ⟨zdX11_restsGain _ _, m_973, m_974⟩
theorem zdX12_letterOf (own : String) (idx : Nat) : zWd own idx yX12_letterOf cX12_letterOf 1 (some .int) 1 := ⟨⟨m_1323, m_14, by decide, by decide, by decide +kernel⟩, by decide⟩
theorem wsX12_183 : zWS RX12 183 yX12_letterOf cX12_letterOf 1 (some .int) 1 := ⟨zdX12_letterOf _ _, m_1321, m_1322⟩
theorem wsX12_196 : zWS RX12 196 yJ6_bitCount_0f7a4 cJ6_bitCount_0f7a4 1 (some .int) 1 := ⟨zdJ6_bitCount_0f7a4 _ _, m_1395, m_588⟩
theorem zdX12_has (own : String) (idx : Nat) : zWd own idx yX12_has cX12_has 2 (some .boolean) 2 := ⟨⟨m_1342, m_14, by decide, by decide, by decide +kernel⟩, by decide⟩
theorem wsX12_216 : zWS RX12 216 yX12_has cX12_has 2 (some .boolean) 2 := ⟨zdX12_has _ _, m_1340, m_1341⟩
theorem zdX12_lay (own : String) (idx : Nat) : zWd own idx yX12_lay cX12_lay 4 (none) 3 := ⟨⟨m_1387, m_14, by decide, by decide, by decide +kernel⟩, by decide⟩
theorem wsX12_239 : zWS RX12 239 yX12_lay cX12_lay 4 (none) 3 := ⟨zdX12_lay _ _, m_1385, m_1386⟩
theorem zdX12_goes (own : String) (idx : Nat) : zWd own idx yX12_goes cX12_goes 4 (none) 4 := ⟨⟨m_1390, m_14, by decide, by decide, by decide +kernel⟩, by decide⟩
theorem wsX12_251 : zWS RX12 251 yX12_goes cX12_goes 4 (none) 4 := ⟨zdX12_goes _ _, m_1388, m_1389⟩
theorem zdX12_areMarks (own : String) (idx : Nat) : zWd own idx yX12_areMarks cX12_areMarks 1 (some .boolean) 1 := ⟨⟨m_1410, m_14, by decide, by decide, by decide +kernel⟩, by decide⟩
theorem wsX12_264 : zWS RX12 264 yX12_areMarks cX12_areMarks 1 (some .boolean) 1 := ⟨zdX12_areMarks _ _, m_1408, m_1409⟩
theorem zdX12_put (own : String) (idx : Nat) : zWd own idx yX12_put cX12_put 1 (some .int) 1 := ⟨⟨m_1477, m_14, by decide, by decide, by decide +kernel⟩, by decide⟩
theorem wsX12_296 : zWS RX12 296 yX12_put cX12_put 1 (some .int) 1 := ⟨zdX12_put _ _, m_1475, m_1476⟩
theorem zdX12_common (own : String) (idx : Nat) : zWd own idx yX12_common cX12_common 4 (some .long) 2 := ⟨⟨m_1575, m_14, by decide, by decide, by decide +kernel⟩, by decide⟩
theorem wsX12_322 : zWS RX12 322 yX12_common cX12_common 4 (some .long) 2 := ⟨zdX12_common _ _, m_1573, m_1574⟩
theorem zdX12_power (own : String) (idx : Nat) : zWd own idx yX12_power cX12_power 6 (some .long) 2 := ⟨⟨m_1611, m_14, by decide, by decide, by decide +kernel⟩, by decide⟩
theorem wsX12_339 : zWS RX12 339 yX12_power cX12_power 6 (some .long) 2 := ⟨zdX12_power _ _, m_1609, m_1610⟩
theorem zdX12_earns (own : String) (idx : Nat) : zWd own idx yX12_earns cX12_earns 4 (some .int) 4 := ⟨⟨m_1626, m_14, by decide, by decide, by decide +kernel⟩, by decide⟩
theorem wsX12_345 : zWS RX12 345 yX12_earns cX12_earns 4 (some .int) 4 := ⟨zdX12_earns _ _, m_1624, m_1625⟩
theorem zdX12_isBest (own : String) (idx : Nat) : zWd own idx yX12_isBest cX12_isBest 5 (some .boolean) 4 := ⟨⟨m_1623, m_14, by decide, by decide, by decide +kernel⟩, by decide⟩
theorem wsX12_349 : zWS RX12 349 yX12_isBest cX12_isBest 5 (some .boolean) 4 := ⟨zdX12_isBest _ _, m_1621, m_1622⟩
theorem zdX12_in (own : String) (idx : Nat) : zWd own idx yX12_in cX12_in 3 (some .boolean) 3 := ⟨⟨m_1240, m_14, by decide, by decide, by decide +kernel⟩, by decide⟩
theorem wsX12_95 : zWS RX12 95 yX12_in cX12_in 3 (some .boolean) 3 := ⟨zdX12_in _ _, m_1238, m_1239⟩
theorem zdX3_commonDivisor (own : String) (idx : Nat) : zWd own idx yX3_commonDivisor cX3_commonDivisor 11 (some .long) 2 := ⟨⟨m_907, m_3, by decide, by decide, by decide +kernel⟩, by decide⟩
theorem wsX3_17 : zWS RX3 17 yX3_commonDivisor cX3_commonDivisor 11 (some .long) 2 := ⟨zdX3_commonDivisor _ _, m_905, m_906⟩
theorem zdX4_joined (own : String) (idx : Nat) : zWd own idx yX4_joined cX4_joined 3 (some .int) 3 := ⟨⟨m_642, m_7, by decide, by decide, by decide +kernel⟩, by decide⟩
theorem wsX4_41 : zWS RX4 41 yX4_joined cX4_joined 3 (some .int) 3 := ⟨zdX4_joined _ _, m_640, m_641⟩
theorem wsX8_21 : zWS RX8 21 yJ6_bitCount_0f7a4 cJ6_bitCount_0f7a4 1 (some .int) 1 := ⟨zdJ6_bitCount_0f7a4 _ _, m_753, m_588⟩
theorem zdJ0_coder_7d493 (own : String) (idx : Nat) : zWd own idx yJ0_coder_7d493 cJ0_coder_7d493 1 (some .byte) 0 := ⟨⟨m_467, m_16, by decide, by decide, by decide +kernel⟩, by decide⟩
theorem wtJ0_335 : zWT RJ0 335 yJ0_coder_7d493 cJ0_coder_7d493 1 (some .byte) 0 := ⟨zdJ0_coder_7d493 _ _, m_464, m_465, m_466⟩
theorem zdJ0_isLatin1_aae02 (own : String) (idx : Nat) : zWd own idx yJ0_isLatin1_aae02 cJ0_isLatin1_aae02 1 (some .boolean) 0 := ⟨⟨m_457, m_16, by decide, by decide, by decide +kernel⟩, by decide⟩
theorem wtJ0_492 : zWT RJ0 492 yJ0_isLatin1_aae02 cJ0_isLatin1_aae02 1 (some .boolean) 0 := ⟨zdJ0_isLatin1_aae02 _ _, m_454, m_455, m_456⟩
theorem zdJ0_length_8abf5 (own : String) (idx : Nat) : zWd own idx yJ0_length_8abf5 cJ0_length_8abf5 1 (some .int) 0 := ⟨⟨m_463, m_16, by decide, by decide, by decide +kernel⟩, by decide⟩
theorem wtJ0_505 : zWT RJ0 505 yJ0_length_8abf5 cJ0_length_8abf5 1 (some .int) 0 := ⟨zdJ0_length_8abf5 _ _, m_460, m_461, m_462⟩
theorem zdJ0_indexOf_7cf53 (own : String) (idx : Nat) : zWd own idx yJ0_indexOf_7cf53 cJ0_indexOf_7cf53 3 (some .int) 2 := ⟨⟨m_453, m_16, by decide, by decide, by decide +kernel⟩, by decide⟩
theorem wtJ0_633 : zWT RJ0 633 yJ0_indexOf_7cf53 cJ0_indexOf_7cf53 3 (some .int) 2 := ⟨zdJ0_indexOf_7cf53 _ _, m_450, m_451, m_452⟩
theorem zdJ0_indexOf_0f7a4 (own : String) (idx : Nat) : zWd own idx yJ0_indexOf_0f7a4 cJ0_indexOf_0f7a4 2 (some .int) 1 := ⟨⟨m_449, m_16, by decide, by decide, by decide +kernel⟩, by decide⟩
theorem wtX5_79 : zWT RX5 79 yJ0_indexOf_0f7a4 cJ0_indexOf_0f7a4 2 (some .int) 1 := ⟨zdJ0_indexOf_0f7a4 _ _, m_446, m_447, m_448⟩
theorem zdX9_signAt (own : String) (idx : Nat) : zWd own idx yX9_signAt cX9_signAt 2 (some .int) 1 := ⟨⟨m_363, m_2, by decide, by decide, by decide +kernel⟩, by decide⟩
theorem wvX0_36 : zWV RX0 36 9 yX9_signAt cX9_signAt 2 (some .int) 1 := ⟨zdX9_signAt _ _, m_706, m_361, RX9, TX9, 2, rfl, m_362⟩
theorem zdX10_putWith (own : String) (idx : Nat) : zWd own idx yX10_putWith cX10_putWith 3 (none) 2 := ⟨⟨m_379, m_5, by decide, by decide, by decide +kernel⟩, by decide⟩
theorem wvX10_37 : zWV RX10 37 10 yX10_putWith cX10_putWith 3 (none) 2 := ⟨zdX10_putWith _ _, m_376, m_377, RX10, TX10, 6, rfl, m_378⟩
theorem zdX10_isIn (own : String) (idx : Nat) : zWd own idx yX10_isIn cX10_isIn 2 (some .boolean) 1 := ⟨⟨m_607, m_5, by decide, by decide, by decide +kernel⟩, by decide⟩
theorem wvX10_41 : zWV RX10 41 10 yX10_isIn cX10_isIn 2 (some .boolean) 1 := ⟨zdX10_isIn _ _, m_604, m_605, RX10, TX10, 6, rfl, m_606⟩
theorem zdX10_lost (own : String) (idx : Nat) : zWd own idx yX10_lost cX10_lost 3 (some .int) 0 := ⟨⟨m_586, m_5, by decide, by decide, by decide +kernel⟩, by decide⟩
theorem wvX10_45 : zWV RX10 45 10 yX10_lost cX10_lost 3 (some .int) 0 := ⟨zdX10_lost _ _, m_583, m_584, RX10, TX10, 6, rfl, m_585⟩
theorem zdX10_inside (own : String) (idx : Nat) : zWd own idx yX10_inside cX10_inside 3 (some .int) 0 := ⟨⟨m_603, m_5, by decide, by decide, by decide +kernel⟩, by decide⟩
theorem wvX10_55 : zWV RX10 55 10 yX10_inside cX10_inside 3 (some .int) 0 := ⟨zdX10_inside _ _, m_600, m_601, RX10, TX10, 6, rfl, m_602⟩
theorem zdX10_passDay (own : String) (idx : Nat) : zWd own idx yX10_passDay cX10_passDay 4 (some .int) 1 := ⟨⟨m_658, m_5, by decide, by decide, by decide +kernel⟩, by decide⟩
theorem wvX10_64 : zWV RX10 64 10 yX10_passDay cX10_passDay 4 (some .int) 1 := ⟨zdX10_passDay _ _, m_655, m_657, RX10, TX10, 6, rfl, p_17⟩
theorem zdX9_hasRoomForFour (own : String) (idx : Nat) : zWd own idx yX9_hasRoomForFour cX9_hasRoomForFour 1 (some .boolean) 0 := ⟨⟨m_336, m_2, by decide, by decide, by decide +kernel⟩, by decide⟩
theorem wvX11_116 : zWV RX11 116 9 yX9_hasRoomForFour cX9_hasRoomForFour 1 (some .boolean) 0 := ⟨zdX9_hasRoomForFour _ _, m_333, m_334, RX9, TX9, 2, rfl, m_335⟩
theorem zdX9_append (own : String) (idx : Nat) : zWd own idx yX9_append cX9_append 3 (some .int) 1 := ⟨⟨m_340, m_2, by decide, by decide, by decide +kernel⟩, by decide⟩
theorem wvX11_120 : zWV RX11 120 9 yX9_append cX9_append 3 (some .int) 1 := ⟨zdX9_append _ _, m_337, m_338, RX9, TX9, 2, rfl, m_339⟩
theorem zdX9_cutTo (own : String) (idx : Nat) : zWd own idx yX9_cutTo cX9_cutTo 2 (some .boolean) 1 := ⟨⟨m_348, m_2, by decide, by decide, by decide +kernel⟩, by decide⟩
theorem wvX11_124 : zWV RX11 124 9 yX9_cutTo cX9_cutTo 2 (some .boolean) 1 := ⟨zdX9_cutTo _ _, m_345, m_346, RX9, TX9, 2, rfl, m_347⟩
theorem zdX7_readThings (own : String) (idx : Nat) : zWd own idx yX7_readThings cX7_readThings 8 (some .int) 1 := ⟨⟨m_356, m_4, by decide, by decide, by decide +kernel⟩, by decide⟩
theorem wvX11_128 : zWV RX11 128 7 yX7_readThings cX7_readThings 8 (some .int) 1 := ⟨zdX7_readThings _ _, m_353, m_354, RX7, TX7, 5, rfl, m_355⟩
theorem zdX9_clear (own : String) (idx : Nat) : zWd own idx yX9_clear cX9_clear 1 (none) 0 := ⟨⟨m_371, m_2, by decide, by decide, by decide +kernel⟩, by decide⟩
theorem wvX11_132 : zWV RX11 132 9 yX9_clear cX9_clear 1 (none) 0 := ⟨zdX9_clear _ _, m_368, m_369, RX9, TX9, 2, rfl, m_370⟩
theorem zdX10_arrive (own : String) (idx : Nat) : zWd own idx yX10_arrive cX10_arrive 4 (none) 2 := ⟨⟨m_375, m_5, by decide, by decide, by decide +kernel⟩, by decide⟩
theorem wvX11_138 : zWV RX11 138 10 yX10_arrive cX10_arrive 4 (none) 2 := ⟨zdX10_arrive _ _, m_372, m_373, RX10, TX10, 6, rfl, m_374⟩
theorem zdX11_forgetThePast (own : String) (idx : Nat) : zWd own idx yX11_forgetThePast cX11_forgetThePast 2 (none) 0 := ⟨⟨m_383, m_1, by decide, by decide, by decide +kernel⟩, by decide⟩
theorem wvX11_142 : zWV RX11 142 11 yX11_forgetThePast cX11_forgetThePast 2 (none) 0 := ⟨zdX11_forgetThePast _ _, m_380, m_382, RX11, TX11, 19, rfl, p_0⟩
theorem zdX9_isEmpty (own : String) (idx : Nat) : zWd own idx yX9_isEmpty cX9_isEmpty 1 (some .boolean) 0 := ⟨⟨m_367, m_2, by decide, by decide, by decide +kernel⟩, by decide⟩
theorem wvX11_145 : zWV RX11 145 9 yX9_isEmpty cX9_isEmpty 1 (some .boolean) 0 := ⟨zdX9_isEmpty _ _, m_388, m_365, RX9, TX9, 2, rfl, m_366⟩
theorem zdX9_readSets (own : String) (idx : Nat) : zWd own idx yX9_readSets cX9_readSets 12 (some .int) 5 := ⟨⟨m_392, m_2, by decide, by decide, by decide +kernel⟩, by decide⟩
theorem wvX11_154 : zWV RX11 154 9 yX9_readSets cX9_readSets 12 (some .int) 5 := ⟨zdX9_readSets _ _, m_389, m_390, RX9, TX9, 2, rfl, m_391⟩
theorem zdX11_readOtherRule (own : String) (idx : Nat) : zWd own idx yX11_readOtherRule cX11_readOtherRule 2 (some .int) 0 := ⟨⟨m_401, m_1, by decide, by decide, by decide +kernel⟩, by decide⟩
theorem wvX11_158 : zWV RX11 158 11 yX11_readOtherRule cX11_readOtherRule 2 (some .int) 0 := ⟨zdX11_readOtherRule _ _, m_398, m_400, RX11, TX11, 19, rfl, p_1⟩
theorem zdX4_become (own : String) (idx : Nat) : zWd own idx yX4_become cX4_become 2 (none) 1 := ⟨⟨m_533, m_7, by decide, by decide, by decide +kernel⟩, by decide⟩
theorem wvX11_162 : zWV RX11 162 4 yX4_become cX4_become 2 (none) 1 := ⟨zdX4_become _ _, m_530, m_531, RX4, TX4, 4, rfl, m_532⟩
theorem zdX11_isThing (own : String) (idx : Nat) : zWd own idx yX11_isThing cX11_isThing 2 (some .boolean) 1 := ⟨⟨m_575, m_1, by decide, by decide, by decide +kernel⟩, by decide⟩
theorem wvX11_166 : zWV RX11 166 11 yX11_isThing cX11_isThing 2 (some .boolean) 1 := ⟨zdX11_isThing _ _, m_572, m_574, RX11, TX11, 19, rfl, p_12⟩
theorem zdX7_deedsThatNeed (own : String) (idx : Nat) : zWd own idx yX7_deedsThatNeed cX7_deedsThatNeed 4 (some .int) 1 := ⟨⟨m_944, m_4, by decide, by decide, by decide +kernel⟩, by decide⟩
theorem wvX11_194 : zWV RX11 194 7 yX7_deedsThatNeed cX7_deedsThatNeed 4 (some .int) 1 := ⟨zdX7_deedsThatNeed _ _, m_941, m_942, RX7, TX7, 5, rfl, m_943⟩
theorem zdX11_isDeed (own : String) (idx : Nat) : zWd own idx yX11_isDeed cX11_isDeed 2 (some .boolean) 1 := ⟨⟨m_834, m_1, by decide, by decide, by decide +kernel⟩, by decide⟩
theorem wvX11_199 : zWV RX11 199 11 yX11_isDeed cX11_isDeed 2 (some .boolean) 1 := ⟨zdX11_isDeed _ _, m_831, m_833, RX11, TX11, 19, rfl, p_23⟩
theorem zdX10_heldBy (own : String) (idx : Nat) : zWd own idx yX10_heldBy cX10_heldBy 4 (some .int) 1 := ⟨⟨m_692, m_5, by decide, by decide, by decide +kernel⟩, by decide⟩
theorem wvX11_204 : zWV RX11 204 10 yX10_heldBy cX10_heldBy 4 (some .int) 1 := ⟨zdX10_heldBy _ _, m_689, m_690, RX10, TX10, 6, rfl, m_691⟩
theorem zdX11_act (own : String) (idx : Nat) : zWd own idx yX11_act cX11_act 5 (some .int) 3 := ⟨⟨m_558, m_1, by decide, by decide, by decide +kernel⟩, by decide⟩
theorem wvX11_213 : zWV RX11 213 11 yX11_act cX11_act 5 (some .int) 3 := ⟨zdX11_act _ _, m_555, m_557, RX11, TX11, 19, rfl, p_10⟩
theorem zdX2_note (own : String) (idx : Nat) : zWd own idx yX2_note cX2_note 2 (none) 1 := ⟨⟨m_562, m_6, by decide, by decide, by decide +kernel⟩, by decide⟩
theorem wvX11_220 : zWV RX11 220 2 yX2_note cX2_note 2 (none) 1 := ⟨zdX2_note _ _, m_559, m_560, RX2, TX2, 3, rfl, m_561⟩
theorem zdX10_passDays (own : String) (idx : Nat) : zWd own idx yX10_passDays cX10_passDays 5 (some .int) 2 := ⟨⟨m_654, m_5, by decide, by decide, by decide +kernel⟩, by decide⟩
theorem wvX11_224 : zWV RX11 224 10 yX10_passDays cX10_passDays 5 (some .int) 2 := ⟨zdX10_passDays _ _, m_651, m_652, RX10, TX10, 6, rfl, m_653⟩
theorem zdX2_keepNoted (own : String) (idx : Nat) : zWd own idx yX2_keepNoted cX2_keepNoted 1 (none) 0 := ⟨⟨m_663, m_6, by decide, by decide, by decide +kernel⟩, by decide⟩
theorem wvX11_227 : zWV RX11 227 2 yX2_keepNoted cX2_keepNoted 1 (none) 0 := ⟨zdX2_keepNoted _ _, m_660, m_661, RX2, TX2, 3, rfl, m_662⟩
theorem zdX3_begin (own : String) (idx : Nat) : zWd own idx yX3_begin cX3_begin 1 (none) 0 := ⟨⟨m_684, m_3, by decide, by decide, by decide +kernel⟩, by decide⟩
theorem wvX11_230 : zWV RX11 230 3 yX3_begin cX3_begin 1 (none) 0 := ⟨zdX3_begin _ _, m_681, m_682, RX3, TX3, 2, rfl, m_683⟩
theorem zdX3_tell (own : String) (idx : Nat) : zWd own idx yX3_tell cX3_tell 3 (none) 1 := ⟨⟨m_688, m_3, by decide, by decide, by decide +kernel⟩, by decide⟩
theorem wvX11_233 : zWV RX11 233 3 yX3_tell cX3_tell 3 (none) 1 := ⟨zdX3_tell _ _, m_685, m_686, RX3, TX3, 2, rfl, m_687⟩
theorem zdX7_doableWith (own : String) (idx : Nat) : zWd own idx yX7_doableWith cX7_doableWith 4 (some .int) 1 := ⟨⟨m_696, m_4, by decide, by decide, by decide +kernel⟩, by decide⟩
theorem wvX11_237 : zWV RX11 237 7 yX7_doableWith cX7_doableWith 4 (some .int) 1 := ⟨zdX7_doableWith _ _, m_693, m_694, RX7, TX7, 5, rfl, m_695⟩
theorem zdX0_readFrom (own : String) (idx : Nat) : zWd own idx yX0_readFrom cX0_readFrom 7 (some .int) 1 := ⟨⟨m_704, m_10, by decide, by decide, by decide +kernel⟩, by decide⟩
theorem wvX11_245 : zWV RX11 245 0 yX0_readFrom cX0_readFrom 7 (some .int) 1 := ⟨zdX0_readFrom _ _, m_701, m_702, RX0, TX0, 4, rfl, m_703⟩
theorem zdX11_perform (own : String) (idx : Nat) : zWd own idx yX11_perform cX11_perform 5 (some .int) 4 := ⟨⟨m_571, m_1, by decide, by decide, by decide +kernel⟩, by decide⟩
theorem wvX11_260 : zWV RX11 260 11 yX11_perform cX11_perform 5 (some .int) 4 := ⟨zdX11_perform _ _, m_568, m_570, RX11, TX11, 19, rfl, p_11⟩
theorem zdX2_bringBack (own : String) (idx : Nat) : zWd own idx yX2_bringBack cX2_bringBack 2 (some .boolean) 1 := ⟨⟨m_721, m_6, by decide, by decide, by decide +kernel⟩, by decide⟩
theorem wvX11_264 : zWV RX11 264 2 yX2_bringBack cX2_bringBack 2 (some .boolean) 1 := ⟨zdX2_bringBack _ _, m_718, m_719, RX2, TX2, 3, rfl, m_720⟩
theorem zdX11_matchOf (own : String) (idx : Nat) : zWd own idx yX11_matchOf cX11_matchOf 9 (some .int) 3 := ⟨⟨m_626, m_1, by decide, by decide, by decide +kernel⟩, by decide⟩
theorem wvX11_272 : zWV RX11 272 11 yX11_matchOf cX11_matchOf 9 (some .int) 3 := ⟨zdX11_matchOf _ _, m_623, m_625, RX11, TX11, 19, rfl, p_15⟩
theorem zdX11_bestThing (own : String) (idx : Nat) : zWd own idx yX11_bestThing cX11_bestThing 7 (some .int) 2 := ⟨⟨m_621, m_1, by decide, by decide, by decide +kernel⟩, by decide⟩
theorem wvX11_279 : zWV RX11 279 11 yX11_bestThing cX11_bestThing 7 (some .int) 2 := ⟨zdX11_bestThing _ _, m_618, m_620, RX11, TX11, 19, rfl, p_14⟩
theorem zdX11_howManyMatch (own : String) (idx : Nat) : zWd own idx yX11_howManyMatch cX11_howManyMatch 4 (some .int) 1 := ⟨⟨m_736, m_1, by decide, by decide, by decide +kernel⟩, by decide⟩
theorem wvX11_283 : zWV RX11 283 11 yX11_howManyMatch cX11_howManyMatch 4 (some .int) 1 := ⟨zdX11_howManyMatch _ _, m_733, m_735, RX11, TX11, 19, rfl, p_18⟩
theorem zdX11_surveyBy (own : String) (idx : Nat) : zWd own idx yX11_surveyBy cX11_surveyBy 4 (none) 1 := ⟨⟨m_744, m_1, by decide, by decide, by decide +kernel⟩, by decide⟩
theorem wvX11_286 : zWV RX11 286 11 yX11_surveyBy cX11_surveyBy 4 (none) 1 := ⟨zdX11_surveyBy _ _, m_741, m_743, RX11, TX11, 19, rfl, p_19⟩
theorem zdX8_howManyGet (own : String) (idx : Nat) : zWd own idx yX8_howManyGet cX8_howManyGet 4 (some .int) 1 := ⟨⟨m_766, m_12, by decide, by decide, by decide +kernel⟩, by decide⟩
theorem wvX11_292 : zWV RX11 292 8 yX8_howManyGet cX8_howManyGet 4 (some .int) 1 := ⟨zdX8_howManyGet _ _, m_763, m_764, RX8, TX8, 3, rfl, m_765⟩
theorem wvX11_304 : zWV RX11 304 10 yX10_inside cX10_inside 3 (some .int) 0 := ⟨zdX10_inside _ _, m_771, m_601, RX10, TX10, 6, rfl, m_602⟩
theorem zdX6_workOut (own : String) (idx : Nat) : zWd own idx yX6_workOut cX6_workOut 5 (none) 2 := ⟨⟨m_775, m_11, by decide, by decide, by decide +kernel⟩, by decide⟩
theorem wvX11_307 : zWV RX11 307 6 yX6_workOut cX6_workOut 5 (none) 2 := ⟨zdX6_workOut _ _, m_772, m_773, RX6, TX6, 3, rfl, m_774⟩
theorem zdX11_tellShares (own : String) (idx : Nat) : zWd own idx yX11_tellShares cX11_tellShares 6 (none) 2 := ⟨⟨m_791, m_1, by decide, by decide, by decide +kernel⟩, by decide⟩
theorem wvX11_310 : zWV RX11 310 11 yX11_tellShares cX11_tellShares 6 (none) 2 := ⟨zdX11_tellShares _ _, m_788, m_790, RX11, TX11, 19, rfl, p_22⟩
theorem wvX11_316 : zWV RX11 316 10 yX10_isIn cX10_isIn 2 (some .boolean) 1 := ⟨zdX10_isIn _ _, m_622, m_605, RX10, TX10, 6, rfl, m_606⟩
theorem zdX10_daysLeft (own : String) (idx : Nat) : zWd own idx yX10_daysLeft cX10_daysLeft 3 (some .int) 2 := ⟨⟨m_803, m_5, by decide, by decide, by decide +kernel⟩, by decide⟩
theorem wvX11_319 : zWV RX11 319 10 yX10_daysLeft cX10_daysLeft 3 (some .int) 2 := ⟨zdX10_daysLeft _ _, m_800, m_801, RX10, TX10, 6, rfl, m_802⟩
theorem zdX10_become (own : String) (idx : Nat) : zWd own idx yX10_become cX10_become 2 (none) 1 := ⟨⟨m_566, m_5, by decide, by decide, by decide +kernel⟩, by decide⟩
theorem wvX11_322 : zWV RX11 322 10 yX10_become cX10_become 2 (none) 1 := ⟨zdX10_become _ _, m_809, m_564, RX10, TX10, 6, rfl, m_565⟩
theorem zdX7_worthOf (own : String) (idx : Nat) : zWd own idx yX7_worthOf cX7_worthOf 4 (some .int) 1 := ⟨⟨m_817, m_4, by decide, by decide, by decide +kernel⟩, by decide⟩
theorem wvX11_324 : zWV RX11 324 7 yX7_worthOf cX7_worthOf 4 (some .int) 1 := ⟨zdX7_worthOf _ _, m_814, m_815, RX7, TX7, 5, rfl, m_816⟩
theorem wvX11_327 : zWV RX11 327 10 yX10_lost cX10_lost 3 (some .int) 0 := ⟨zdX10_lost _ _, m_835, m_584, RX10, TX10, 6, rfl, m_585⟩
theorem zdX1_hear (own : String) (idx : Nat) : zWd own idx yX1_hear cX1_hear 3 (none) 2 := ⟨⟨m_843, m_13, by decide, by decide, by decide +kernel⟩, by decide⟩
theorem wvX11_331 : zWV RX11 331 1 yX1_hear cX1_hear 3 (none) 2 := ⟨zdX1_hear _ _, m_840, m_841, RX1, TX1, 3, rfl, m_842⟩
theorem zdX1_clear (own : String) (idx : Nat) : zWd own idx yX1_clear cX1_clear 1 (none) 0 := ⟨⟨m_851, m_13, by decide, by decide, by decide +kernel⟩, by decide⟩
theorem wvX11_335 : zWV RX11 335 1 yX1_clear cX1_clear 1 (none) 0 := ⟨zdX1_clear _ _, m_848, m_849, RX1, TX1, 3, rfl, m_850⟩
theorem zdX11_fittingThings (own : String) (idx : Nat) : zWd own idx yX11_fittingThings cX11_fittingThings 3 (some .int) 0 := ⟨⟨m_859, m_1, by decide, by decide, by decide +kernel⟩, by decide⟩
theorem wvX11_336 : zWV RX11 336 11 yX11_fittingThings cX11_fittingThings 3 (some .int) 0 := ⟨zdX11_fittingThings _ _, m_856, m_858, RX11, TX11, 19, rfl, p_24⟩
theorem zdX7_thingsMarked (own : String) (idx : Nat) : zWd own idx yX7_thingsMarked cX7_thingsMarked 4 (some .int) 1 := ⟨⟨m_872, m_4, by decide, by decide, by decide +kernel⟩, by decide⟩
theorem wvX11_343 : zWV RX11 343 7 yX7_thingsMarked cX7_thingsMarked 4 (some .int) 1 := ⟨zdX7_thingsMarked _ _, m_869, m_870, RX7, TX7, 5, rfl, m_871⟩
theorem zdX7_allDifferIn (own : String) (idx : Nat) : zWd own idx yX7_allDifferIn cX7_allDifferIn 4 (some .boolean) 1 := ⟨⟨m_880, m_4, by decide, by decide, by decide +kernel⟩, by decide⟩
theorem wvX11_351 : zWV RX11 351 7 yX7_allDifferIn cX7_allDifferIn 4 (some .boolean) 1 := ⟨zdX7_allDifferIn _ _, m_877, m_878, RX7, TX7, 5, rfl, m_879⟩
theorem zdX9_readDigits (own : String) (idx : Nat) : zWd own idx yX9_readDigits cX9_readDigits 3 (some .int) 1 := ⟨⟨m_892, m_2, by decide, by decide, by decide +kernel⟩, by decide⟩
theorem wvX11_354 : zWV RX11 354 9 yX9_readDigits cX9_readDigits 3 (some .int) 1 := ⟨zdX9_readDigits _ _, m_889, m_890, RX9, TX9, 2, rfl, m_891⟩
theorem zdX11_sumOfDigits (own : String) (idx : Nat) : zWd own idx yX11_sumOfDigits cX11_sumOfDigits 4 (some .long) 0 := ⟨⟨m_896, m_1, by decide, by decide, by decide +kernel⟩, by decide⟩
theorem wvX11_358 : zWV RX11 358 11 yX11_sumOfDigits cX11_sumOfDigits 4 (some .long) 0 := ⟨zdX11_sumOfDigits _ _, m_893, m_895, RX11, TX11, 19, rfl, p_25⟩
theorem zdX11_tellLooks (own : String) (idx : Nat) : zWd own idx yX11_tellLooks cX11_tellLooks 8 (none) 2 := ⟨⟨m_900, m_1, by decide, by decide, by decide +kernel⟩, by decide⟩
theorem wvX11_362 : zWV RX11 362 11 yX11_tellLooks cX11_tellLooks 8 (none) 2 := ⟨zdX11_tellLooks _ _, m_897, m_899, RX11, TX11, 19, rfl, p_26⟩
theorem zdX3_tellFraction (own : String) (idx : Nat) : zWd own idx yX3_tellFraction cX3_tellFraction 7 (none) 2 := ⟨⟨m_904, m_3, by decide, by decide, by decide +kernel⟩, by decide⟩
theorem wvX11_372 : zWV RX11 372 3 yX3_tellFraction cX3_tellFraction 7 (none) 2 := ⟨zdX3_tellFraction _ _, m_901, m_902, RX3, TX3, 2, rfl, m_903⟩
theorem zdX7_allNeeds (own : String) (idx : Nat) : zWd own idx yX7_allNeeds cX7_allNeeds 3 (some .int) 0 := ⟨⟨m_932, m_4, by decide, by decide, by decide +kernel⟩, by decide⟩
theorem wvX11_376 : zWV RX11 376 7 yX7_allNeeds cX7_allNeeds 3 (some .int) 0 := ⟨zdX7_allNeeds _ _, m_929, m_930, RX7, TX7, 5, rfl, m_931⟩
theorem zdX11_drawnActGets (own : String) (idx : Nat) : zWd own idx yX11_drawnActGets cX11_drawnActGets 4 (some .boolean) 0 := ⟨⟨m_987, m_1, by decide, by decide, by decide +kernel⟩, by decide⟩
theorem wvX11_391 : zWV RX11 391 11 yX11_drawnActGets cX11_drawnActGets 4 (some .boolean) 0 := ⟨zdX11_drawnActGets _ _, m_984, m_986, RX11, TX11, 19, rfl, p_28⟩
theorem zdX4_becomePlain (own : String) (idx : Nat) : zWd own idx yX4_becomePlain cX4_becomePlain 1 (none) 0 := ⟨⟨m_155, m_7, by decide, by decide, by decide +kernel⟩, by decide⟩
theorem wvX11_413 : zWV RX11 413 4 yX4_becomePlain cX4_becomePlain 1 (none) 0 := ⟨zdX4_becomePlain _ _, m_402, m_153, RX4, TX4, 4, rfl, m_154⟩
theorem zdX5_readAll (own : String) (idx : Nat) : zWd own idx yX5_readAll cX5_readAll 1 (some .int) 0 := ⟨⟨m_406, m_9, by decide, by decide, by decide +kernel⟩, by decide⟩
theorem wvX11_416 : zWV RX11 416 5 yX5_readAll cX5_readAll 1 (some .int) 0 := ⟨zdX5_readAll _ _, m_403, m_404, RX5, TX5, 4, rfl, m_405⟩
theorem zdX10_lose (own : String) (idx : Nat) : zWd own idx yX10_lose cX10_lose 3 (some .int) 2 := ⟨⟨m_582, m_5, by decide, by decide, by decide +kernel⟩, by decide⟩
theorem wvX11_419 : zWV RX11 419 10 yX10_lose cX10_lose 3 (some .int) 2 := ⟨zdX10_lose _ _, m_579, m_580, RX10, TX10, 6, rfl, m_581⟩
theorem zdX10_bringIn (own : String) (idx : Nat) : zWd own idx yX10_bringIn cX10_bringIn 3 (some .int) 2 := ⟨⟨m_599, m_5, by decide, by decide, by decide +kernel⟩, by decide⟩
theorem wvX11_425 : zWV RX11 425 10 yX10_bringIn cX10_bringIn 3 (some .int) 2 := ⟨zdX10_bringIn _ _, m_596, m_597, RX10, TX10, 6, rfl, m_598⟩
theorem zdX11_handOut (own : String) (idx : Nat) : zWd own idx yX11_handOut cX11_handOut 5 (some .int) 3 := ⟨⟨m_617, m_1, by decide, by decide, by decide +kernel⟩, by decide⟩
theorem wvX11_431 : zWV RX11 431 11 yX11_handOut cX11_handOut 5 (some .int) 3 := ⟨zdX11_handOut _ _, m_614, m_616, RX11, TX11, 19, rfl, p_13⟩
theorem zdX10_hand (own : String) (idx : Nat) : zWd own idx yX10_hand cX10_hand 4 (some .int) 2 := ⟨⟨m_647, m_5, by decide, by decide, by decide +kernel⟩, by decide⟩
theorem wvX11_435 : zWV RX11 435 10 yX10_hand cX10_hand 4 (some .int) 2 := ⟨zdX10_hand _ _, m_644, m_645, RX10, TX10, 6, rfl, m_646⟩
theorem wvX11_438 : zWV RX11 438 10 yX10_putWith cX10_putWith 3 (none) 2 := ⟨zdX10_putWith _ _, m_643, m_377, RX10, TX10, 6, rfl, m_378⟩
theorem zdX10_weekday (own : String) (idx : Nat) : zWd own idx yX10_weekday cX10_weekday 1 (some .int) 0 := ⟨⟨m_631, m_5, by decide, by decide, by decide +kernel⟩, by decide⟩
theorem wvX11_441 : zWV RX11 441 10 yX10_weekday cX10_weekday 1 (some .int) 0 := ⟨zdX10_weekday _ _, m_628, m_629, RX10, TX10, 6, rfl, m_630⟩
theorem zdX4_valueOf (own : String) (idx : Nat) : zWd own idx yX4_valueOf cX4_valueOf 10 (some .int) 6 := ⟨⟨m_635, m_7, by decide, by decide, by decide +kernel⟩, by decide⟩
theorem wvX11_444 : zWV RX11 444 4 yX4_valueOf cX4_valueOf 10 (some .int) 6 := ⟨zdX4_valueOf _ _, m_632, m_633, RX4, TX4, 4, rfl, m_634⟩
theorem zdX8_clear (own : String) (idx : Nat) : zWd own idx yX8_clear cX8_clear 2 (none) 0 := ⟨⟨m_748, m_12, by decide, by decide, by decide +kernel⟩, by decide⟩
theorem wvX11_448 : zWV RX11 448 8 yX8_clear cX8_clear 2 (none) 0 := ⟨zdX8_clear _ _, m_745, m_746, RX8, TX8, 3, rfl, m_747⟩
theorem zdX8_weigh (own : String) (idx : Nat) : zWd own idx yX8_weigh cX8_weigh 9 (none) 5 := ⟨⟨m_752, m_12, by decide, by decide, by decide +kernel⟩, by decide⟩
theorem wvX11_449 : zWV RX11 449 8 yX8_weigh cX8_weigh 9 (none) 5 := ⟨zdX8_weigh _ _, m_749, m_750, RX8, TX8, 3, rfl, m_751⟩
theorem zdX8_offer (own : String) (idx : Nat) : zWd own idx yX8_offer cX8_offer 7 (none) 3 := ⟨⟨m_758, m_12, by decide, by decide, by decide +kernel⟩, by decide⟩
theorem wvX11_453 : zWV RX11 453 8 yX8_offer cX8_offer 7 (none) 3 := ⟨zdX8_offer _ _, m_755, m_756, RX8, TX8, 3, rfl, m_757⟩
theorem zdX6_leastChoice (own : String) (idx : Nat) : zWd own idx yX6_leastChoice cX6_leastChoice 6 (some .int) 3 := ⟨⟨m_795, m_11, by decide, by decide, by decide +kernel⟩, by decide⟩
theorem wvX11_457 : zWV RX11 457 6 yX6_leastChoice cX6_leastChoice 6 (some .int) 3 := ⟨zdX6_leastChoice _ _, m_792, m_793, RX6, TX6, 3, rfl, m_794⟩
theorem zdX1_isTrueOf (own : String) (idx : Nat) : zWd own idx yX1_isTrueOf cX1_isTrueOf 2 (some .boolean) 1 := ⟨⟨m_863, m_13, by decide, by decide, by decide +kernel⟩, by decide⟩
theorem wvX11_460 : zWV RX11 460 1 yX1_isTrueOf cX1_isTrueOf 2 (some .boolean) 1 := ⟨zdX1_isTrueOf _ _, m_860, m_861, RX1, TX1, 3, rfl, m_862⟩
theorem zdX11_likeliestPlace (own : String) (idx : Nat) : zWd own idx yX11_likeliestPlace cX11_likeliestPlace 3 (some .int) 0 := ⟨⟨m_912, m_1, by decide, by decide, by decide +kernel⟩, by decide⟩
theorem wvX11_463 : zWV RX11 463 11 yX11_likeliestPlace cX11_likeliestPlace 3 (some .int) 0 := ⟨zdX11_likeliestPlace _ _, m_909, m_911, RX11, TX11, 19, rfl, p_27⟩
theorem zdX3_putFraction (own : String) (idx : Nat) : zWd own idx yX3_putFraction cX3_putFraction 7 (none) 3 := ⟨⟨m_916, m_3, by decide, by decide, by decide +kernel⟩, by decide⟩
theorem wvX11_466 : zWV RX11 466 3 yX3_putFraction cX3_putFraction 7 (none) 3 := ⟨zdX3_putFraction _ _, m_913, m_914, RX3, TX3, 2, rfl, m_915⟩
theorem zdX11_draw (own : String) (idx : Nat) : zWd own idx yX11_draw cX11_draw 2 (some .int) 1 := ⟨⟨m_991, m_1, by decide, by decide, by decide +kernel⟩, by decide⟩
theorem wvX11_475 : zWV RX11 475 11 yX11_draw cX11_draw 2 (some .int) 1 := ⟨zdX11_draw _ _, m_988, m_990, RX11, TX11, 19, rfl, p_29⟩
theorem zdX12_begin (own : String) (idx : Nat) : zWd own idx yX12_begin cX12_begin 4 (none) 3 := ⟨⟨m_1252, m_14, by decide, by decide, by decide +kernel⟩, by decide⟩
theorem wvX12_120 : zWV RX12 120 12 yX12_begin cX12_begin 4 (none) 3 := ⟨zdX12_begin _ _, m_1249, m_1251, RX12, TX12, 41, rfl, p_32⟩
theorem zdX12_fine (own : String) (idx : Nat) : zWd own idx yX12_fine cX12_fine 1 (some .boolean) 0 := ⟨⟨m_1256, m_14, by decide, by decide, by decide +kernel⟩, by decide⟩
theorem wvX12_124 : zWV RX12 124 12 yX12_fine cX12_fine 1 (some .boolean) 0 := ⟨zdX12_fine _ _, m_1253, m_1255, RX12, TX12, 41, rfl, p_33⟩
theorem zdX12_here (own : String) (idx : Nat) : zWd own idx yX12_here cX12_here 1 (some .int) 0 := ⟨⟨m_1268, m_14, by decide, by decide, by decide +kernel⟩, by decide⟩
theorem wvX12_128 : zWV RX12 128 12 yX12_here cX12_here 1 (some .int) 0 := ⟨zdX12_here _ _, m_1265, m_1267, RX12, TX12, 41, rfl, p_36⟩
theorem zdX12_passes (own : String) (idx : Nat) : zWd own idx yX12_passes cX12_passes 2 (some .boolean) 1 := ⟨⟨m_1276, m_14, by decide, by decide, by decide +kernel⟩, by decide⟩
theorem wvX12_132 : zWV RX12 132 12 yX12_passes cX12_passes 2 (some .boolean) 1 := ⟨zdX12_passes _ _, m_1273, m_1275, RX12, TX12, 41, rfl, p_38⟩
theorem zdX12_fault (own : String) (idx : Nat) : zWd own idx yX12_fault cX12_fault 2 (none) 1 := ⟨⟨m_1260, m_14, by decide, by decide, by decide +kernel⟩, by decide⟩
theorem wvX12_136 : zWV RX12 136 12 yX12_fault cX12_fault 2 (none) 1 := ⟨zdX12_fault _ _, m_1257, m_1259, RX12, TX12, 41, rfl, p_34⟩
theorem zdX12_oneOf (own : String) (idx : Nat) : zWd own idx yX12_oneOf cX12_oneOf 3 (some .int) 2 := ⟨⟨m_1264, m_14, by decide, by decide, by decide +kernel⟩, by decide⟩
theorem wvX12_140 : zWV RX12 140 12 yX12_oneOf cX12_oneOf 3 (some .int) 2 := ⟨zdX12_oneOf _ _, m_1261, m_1263, RX12, TX12, 41, rfl, p_35⟩
theorem zdX12_beginText (own : String) (idx : Nat) : zWd own idx yX12_beginText cX12_beginText 2 (none) 1 := ⟨⟨m_1248, m_14, by decide, by decide, by decide +kernel⟩, by decide⟩
theorem wvX12_150 : zWV RX12 150 12 yX12_beginText cX12_beginText 2 (none) 1 := ⟨zdX12_beginText _ _, m_1245, m_1247, RX12, TX12, 41, rfl, p_31⟩
theorem zdX12_rising (own : String) (idx : Nat) : zWd own idx yX12_rising cX12_rising 6 (some .int) 2 := ⟨⟨m_1272, m_14, by decide, by decide, by decide +kernel⟩, by decide⟩
theorem wvX12_153 : zWV RX12 153 12 yX12_rising cX12_rising 6 (some .int) 2 := ⟨zdX12_rising _ _, m_1269, m_1271, RX12, TX12, 41, rfl, p_37⟩
theorem zdX12_wasRight (own : String) (idx : Nat) : zWd own idx yX12_wasRight cX12_wasRight 1 (some .boolean) 0 := ⟨⟨m_1280, m_14, by decide, by decide, by decide +kernel⟩, by decide⟩
theorem wvX12_157 : zWV RX12 157 12 yX12_wasRight cX12_wasRight 1 (some .boolean) 0 := ⟨zdX12_wasRight _ _, m_1277, m_1279, RX12, TX12, 41, rfl, p_39⟩
theorem zdX12_told (own : String) (idx : Nat) : zWd own idx yX12_told cX12_told 1 (none) 0 := ⟨⟨m_1284, m_14, by decide, by decide, by decide +kernel⟩, by decide⟩
theorem wvX12_160 : zWV RX12 160 12 yX12_told cX12_told 1 (none) 0 := ⟨zdX12_told _ _, m_1281, m_1283, RX12, TX12, 41, rfl, p_40⟩
theorem zdX12_sum (own : String) (idx : Nat) : zWd own idx yX12_sum cX12_sum 5 (some .int) 1 := ⟨⟨m_1304, m_14, by decide, by decide, by decide +kernel⟩, by decide⟩
theorem wvX12_163 : zWV RX12 163 12 yX12_sum cX12_sum 5 (some .int) 1 := ⟨zdX12_sum _ _, m_1301, m_1303, RX12, TX12, 41, rfl, p_43⟩
theorem zdX12_product (own : String) (idx : Nat) : zWd own idx yX12_product cX12_product 5 (some .int) 1 := ⟨⟨m_1308, m_14, by decide, by decide, by decide +kernel⟩, by decide⟩
theorem wvX12_167 : zWV RX12 167 12 yX12_product cX12_product 5 (some .int) 1 := ⟨zdX12_product _ _, m_1305, m_1307, RX12, TX12, 41, rfl, p_44⟩
theorem zdX12_part (own : String) (idx : Nat) : zWd own idx yX12_part cX12_part 4 (some .int) 1 := ⟨⟨m_1312, m_14, by decide, by decide, by decide +kernel⟩, by decide⟩
theorem wvX12_170 : zWV RX12 170 12 yX12_part cX12_part 4 (some .int) 1 := ⟨zdX12_part _ _, m_1309, m_1311, RX12, TX12, 41, rfl, p_45⟩
theorem zdX12_held (own : String) (idx : Nat) : zWd own idx yX12_held cX12_held 3 (some .int) 1 := ⟨⟨m_1300, m_14, by decide, by decide, by decide +kernel⟩, by decide⟩
theorem wvX12_173 : zWV RX12 173 12 yX12_held cX12_held 3 (some .int) 1 := ⟨zdX12_held _ _, m_1297, m_1299, RX12, TX12, 41, rfl, p_42⟩
theorem zdX12_need (own : String) (idx : Nat) : zWd own idx yX12_need cX12_need 2 (none) 1 := ⟨⟨m_1316, m_14, by decide, by decide, by decide +kernel⟩, by decide⟩
theorem wvX12_176 : zWV RX12 176 12 yX12_need cX12_need 2 (none) 1 := ⟨zdX12_need _ _, m_1313, m_1315, RX12, TX12, 41, rfl, p_46⟩
theorem zdX12_number (own : String) (idx : Nat) : zWd own idx yX12_number cX12_number 4 (some .int) 1 := ⟨⟨m_1320, m_14, by decide, by decide, by decide +kernel⟩, by decide⟩
theorem wvX12_180 : zWV RX12 180 12 yX12_number cX12_number 4 (some .int) 1 := ⟨zdX12_number _ _, m_1317, m_1319, RX12, TX12, 41, rfl, p_47⟩
theorem zdX12_readRule (own : String) (idx : Nat) : zWd own idx yX12_readRule cX12_readRule 1 (some .boolean) 0 := ⟨⟨m_1296, m_14, by decide, by decide, by decide +kernel⟩, by decide⟩
theorem wvX12_190 : zWV RX12 190 12 yX12_readRule cX12_readRule 1 (some .boolean) 0 := ⟨zdX12_readRule _ _, m_1293, m_1295, RX12, TX12, 41, rfl, p_41⟩
theorem zdX12_those (own : String) (idx : Nat) : zWd own idx yX12_those cX12_those 5 (some .int) 2 := ⟨⟨m_1394, m_14, by decide, by decide, by decide +kernel⟩, by decide⟩
theorem wvX12_209 : zWV RX12 209 12 yX12_those cX12_those 5 (some .int) 2 := ⟨zdX12_those _ _, m_1391, m_1393, RX12, TX12, 41, rfl, p_57⟩
theorem zdX12_hadBy (own : String) (idx : Nat) : zWd own idx yX12_hadBy cX12_hadBy 5 (some .int) 2 := ⟨⟨m_1354, m_14, by decide, by decide, by decide +kernel⟩, by decide⟩
theorem wvX12_213 : zWV RX12 213 12 yX12_hadBy cX12_hadBy 5 (some .int) 2 := ⟨zdX12_hadBy _ _, m_1351, m_1353, RX12, TX12, 41, rfl, p_52⟩
theorem zdX12_isThing (own : String) (idx : Nat) : zWd own idx yX12_isThing cX12_isThing 2 (some .boolean) 1 := ⟨⟨m_1331, m_14, by decide, by decide, by decide +kernel⟩, by decide⟩
theorem wvX12_220 : zWV RX12 220 12 yX12_isThing cX12_isThing 2 (some .boolean) 1 := ⟨zdX12_isThing _ _, m_1328, m_1330, RX12, TX12, 41, rfl, p_48⟩
theorem zdX12_lost (own : String) (idx : Nat) : zWd own idx yX12_lost cX12_lost 1 (some .int) 0 := ⟨⟨m_1335, m_14, by decide, by decide, by decide +kernel⟩, by decide⟩
theorem wvX12_224 : zWV RX12 224 12 yX12_lost cX12_lost 1 (some .int) 0 := ⟨zdX12_lost _ _, m_1332, m_1334, RX12, TX12, 41, rfl, p_49⟩
theorem zdX12_neededBy (own : String) (idx : Nat) : zWd own idx yX12_neededBy cX12_neededBy 4 (some .int) 1 := ⟨⟨m_1339, m_14, by decide, by decide, by decide +kernel⟩, by decide⟩
theorem wvX12_227 : zWV RX12 227 12 yX12_neededBy cX12_neededBy 4 (some .int) 1 := ⟨zdX12_neededBy _ _, m_1336, m_1338, RX12, TX12, 41, rfl, p_50⟩
theorem zdX12_isDeed (own : String) (idx : Nat) : zWd own idx yX12_isDeed cX12_isDeed 2 (some .boolean) 1 := ⟨⟨m_1350, m_14, by decide, by decide, by decide +kernel⟩, by decide⟩
theorem wvX12_230 : zWV RX12 230 12 yX12_isDeed cX12_isDeed 2 (some .boolean) 1 := ⟨zdX12_isDeed _ _, m_1347, m_1349, RX12, TX12, 41, rfl, p_51⟩
theorem zdX12_all (own : String) (idx : Nat) : zWd own idx yX12_all cX12_all 1 (some .int) 0 := ⟨⟨m_1368, m_14, by decide, by decide, by decide +kernel⟩, by decide⟩
theorem wvX12_233 : zWV RX12 233 12 yX12_all cX12_all 1 (some .int) 0 := ⟨zdX12_all _ _, m_1365, m_1367, RX12, TX12, 41, rfl, p_53⟩
theorem zdX12_worthOf (own : String) (idx : Nat) : zWd own idx yX12_worthOf cX12_worthOf 4 (some .int) 1 := ⟨⟨m_1372, m_14, by decide, by decide, by decide +kernel⟩, by decide⟩
theorem wvX12_236 : zWV RX12 236 12 yX12_worthOf cX12_worthOf 4 (some .int) 1 := ⟨zdX12_worthOf _ _, m_1369, m_1371, RX12, TX12, 41, rfl, p_54⟩
theorem zdX12_refusesLoss (own : String) (idx : Nat) : zWd own idx yX12_refusesLoss cX12_refusesLoss 4 (some .int) 3 := ⟨⟨m_1380, m_14, by decide, by decide, by decide +kernel⟩, by decide⟩
theorem wvX12_243 : zWV RX12 243 12 yX12_refusesLoss cX12_refusesLoss 4 (some .int) 3 := ⟨zdX12_refusesLoss _ _, m_1377, m_1379, RX12, TX12, 41, rfl, p_55⟩
theorem zdX12_remember (own : String) (idx : Nat) : zWd own idx yX12_remember cX12_remember 3 (none) 1 := ⟨⟨m_1384, m_14, by decide, by decide, by decide +kernel⟩, by decide⟩
theorem wvX12_247 : zWV RX12 247 12 yX12_remember cX12_remember 3 (none) 1 := ⟨zdX12_remember _ _, m_1381, m_1383, RX12, TX12, 41, rfl, p_56⟩
theorem zdX12_refusesFind (own : String) (idx : Nat) : zWd own idx yX12_refusesFind cX12_refusesFind 4 (some .int) 3 := ⟨⟨m_1403, m_14, by decide, by decide, by decide +kernel⟩, by decide⟩
theorem wvX12_255 : zWV RX12 255 12 yX12_refusesFind cX12_refusesFind 4 (some .int) 3 := ⟨zdX12_refusesFind _ _, m_1400, m_1402, RX12, TX12, 41, rfl, p_58⟩
theorem zdX12_matchOf (own : String) (idx : Nat) : zWd own idx yX12_matchOf cX12_matchOf 8 (some .int) 3 := ⟨⟨m_1418, m_14, by decide, by decide, by decide +kernel⟩, by decide⟩
theorem wvX12_258 : zWV RX12 258 12 yX12_matchOf cX12_matchOf 8 (some .int) 3 := ⟨zdX12_matchOf _ _, m_1415, m_1417, RX12, TX12, 41, rfl, p_60⟩
theorem zdX12_gotBy (own : String) (idx : Nat) : zWd own idx yX12_gotBy cX12_gotBy 7 (some .int) 2 := ⟨⟨m_1414, m_14, by decide, by decide, by decide +kernel⟩, by decide⟩
theorem wvX12_261 : zWV RX12 261 12 yX12_gotBy cX12_gotBy 7 (some .int) 2 := ⟨zdX12_gotBy _ _, m_1411, m_1413, RX12, TX12, 41, rfl, p_59⟩
theorem zdX12_goClaim (own : String) (idx : Nat) : zWd own idx yX12_goClaim cX12_goClaim 5 (some .int) 3 := ⟨⟨m_1422, m_14, by decide, by decide, by decide +kernel⟩, by decide⟩
theorem wvX12_267 : zWV RX12 267 12 yX12_goClaim cX12_goClaim 5 (some .int) 3 := ⟨zdX12_goClaim _ _, m_1419, m_1421, RX12, TX12, 41, rfl, p_61⟩
theorem zdX12_refusesGift (own : String) (idx : Nat) : zWd own idx yX12_refusesGift cX12_refusesGift 3 (some .int) 2 := ⟨⟨m_1430, m_14, by decide, by decide, by decide +kernel⟩, by decide⟩
theorem wvX12_270 : zWV RX12 270 12 yX12_refusesGift cX12_refusesGift 3 (some .int) 2 := ⟨zdX12_refusesGift _ _, m_1427, m_1429, RX12, TX12, 41, rfl, p_62⟩
theorem zdX12_goDay (own : String) (idx : Nat) : zWd own idx yX12_goDay cX12_goDay 4 (some .int) 1 := ⟨⟨m_1442, m_14, by decide, by decide, by decide +kernel⟩, by decide⟩
theorem wvX12_273 : zWV RX12 273 12 yX12_goDay cX12_goDay 4 (some .int) 1 := ⟨zdX12_goDay _ _, m_1439, m_1441, RX12, TX12, 41, rfl, p_64⟩
theorem zdX12_goDays (own : String) (idx : Nat) : zWd own idx yX12_goDays cX12_goDays 5 (some .int) 2 := ⟨⟨m_1438, m_14, by decide, by decide, by decide +kernel⟩, by decide⟩
theorem wvX12_277 : zWV RX12 277 12 yX12_goDays cX12_goDays 5 (some .int) 2 := ⟨zdX12_goDays _ _, m_1435, m_1437, RX12, TX12, 41, rfl, p_63⟩
theorem zdX12_tell (own : String) (idx : Nat) : zWd own idx yX12_tell cX12_tell 3 (none) 1 := ⟨⟨m_1446, m_14, by decide, by decide, by decide +kernel⟩, by decide⟩
theorem wvX12_280 : zWV RX12 280 12 yX12_tell cX12_tell 3 (none) 1 := ⟨zdX12_tell _ _, m_1443, m_1445, RX12, TX12, 41, rfl, p_65⟩
theorem zdX12_canWith (own : String) (idx : Nat) : zWd own idx yX12_canWith cX12_canWith 4 (some .int) 1 := ⟨⟨m_1450, m_14, by decide, by decide, by decide +kernel⟩, by decide⟩
theorem wvX12_284 : zWV RX12 284 12 yX12_canWith cX12_canWith 4 (some .int) 1 := ⟨zdX12_canWith _ _, m_1447, m_1449, RX12, TX12, 41, rfl, p_66⟩
theorem zdX12_readAct (own : String) (idx : Nat) : zWd own idx yX12_readAct cX12_readAct 3 (none) 1 := ⟨⟨m_1458, m_14, by decide, by decide, by decide +kernel⟩, by decide⟩
theorem wvX12_287 : zWV RX12 287 12 yX12_readAct cX12_readAct 3 (none) 1 := ⟨zdX12_readAct _ _, m_1455, m_1457, RX12, TX12, 41, rfl, p_67⟩
theorem zdX12_act (own : String) (idx : Nat) : zWd own idx yX12_act cX12_act 4 (some .boolean) 3 := ⟨⟨m_1466, m_14, by decide, by decide, by decide +kernel⟩, by decide⟩
theorem wvX12_290 : zWV RX12 290 12 yX12_act cX12_act 4 (some .boolean) 3 := ⟨zdX12_act _ _, m_1463, m_1465, RX12, TX12, 41, rfl, p_69⟩
theorem zdX12_risingOn (own : String) (idx : Nat) : zWd own idx yX12_risingOn cX12_risingOn 2 (some .int) 0 := ⟨⟨m_1462, m_14, by decide, by decide, by decide +kernel⟩, by decide⟩
theorem wvX12_293 : zWV RX12 293 12 yX12_risingOn cX12_risingOn 2 (some .int) 0 := ⟨zdX12_risingOn _ _, m_1459, m_1461, RX12, TX12, 41, rfl, p_68⟩
theorem zdX12_givenBy (own : String) (idx : Nat) : zWd own idx yX12_givenBy cX12_givenBy 4 (some .int) 3 := ⟨⟨m_1497, m_14, by decide, by decide, by decide +kernel⟩, by decide⟩
theorem wvX12_299 : zWV RX12 299 12 yX12_givenBy cX12_givenBy 4 (some .int) 3 := ⟨zdX12_givenBy _ _, m_1494, m_1496, RX12, TX12, 41, rfl, p_70⟩
theorem zdX12_untilOf (own : String) (idx : Nat) : zWd own idx yX12_untilOf cX12_untilOf 2 (some .int) 1 := ⟨⟨m_1505, m_14, by decide, by decide, by decide +kernel⟩, by decide⟩
theorem wvX12_303 : zWV RX12 303 12 yX12_untilOf cX12_untilOf 2 (some .int) 1 := ⟨zdX12_untilOf _ _, m_1502, m_1504, RX12, TX12, 41, rfl, p_71⟩
theorem zdX12_byPeople (own : String) (idx : Nat) : zWd own idx yX12_byPeople cX12_byPeople 2 (some .int) 1 := ⟨⟨m_1529, m_14, by decide, by decide, by decide +kernel⟩, by decide⟩
theorem wvX12_306 : zWV RX12 306 12 yX12_byPeople cX12_byPeople 2 (some .int) 1 := ⟨zdX12_byPeople _ _, m_1526, m_1528, RX12, TX12, 41, rfl, p_72⟩
theorem zdX12_fitting (own : String) (idx : Nat) : zWd own idx yX12_fitting cX12_fitting 5 (some .int) 0 := ⟨⟨m_1545, m_14, by decide, by decide, by decide +kernel⟩, by decide⟩
theorem wvX12_315 : zWV RX12 315 12 yX12_fitting cX12_fitting 5 (some .int) 0 := ⟨zdX12_fitting _ _, m_1542, m_1544, RX12, TX12, 41, rfl, p_73⟩
theorem zdX12_doTell (own : String) (idx : Nat) : zWd own idx yX12_doTell cX12_doTell 4 (some .boolean) 1 := ⟨⟨m_1558, m_14, by decide, by decide, by decide +kernel⟩, by decide⟩
theorem wvX12_319 : zWV RX12 319 12 yX12_doTell cX12_doTell 4 (some .boolean) 1 := ⟨zdX12_doTell _ _, m_1555, m_1557, RX12, TX12, 41, rfl, p_74⟩
theorem zdX12_tellPart (own : String) (idx : Nat) : zWd own idx yX12_tellPart cX12_tellPart 7 (none) 2 := ⟨⟨m_1572, m_14, by decide, by decide, by decide +kernel⟩, by decide⟩
theorem wvX12_330 : zWV RX12 330 12 yX12_tellPart cX12_tellPart 7 (none) 2 := ⟨zdX12_tellPart _ _, m_1569, m_1571, RX12, TX12, 41, rfl, p_75⟩
theorem zdX12_allNeeds (own : String) (idx : Nat) : zWd own idx yX12_allNeeds cX12_allNeeds 3 (some .int) 0 := ⟨⟨m_1587, m_14, by decide, by decide, by decide +kernel⟩, by decide⟩
theorem wvX12_334 : zWV RX12 334 12 yX12_allNeeds cX12_allNeeds 3 (some .int) 0 := ⟨zdX12_allNeeds _ _, m_1584, m_1586, RX12, TX12, 41, rfl, p_76⟩
theorem zdX12_getting (own : String) (idx : Nat) : zWd own idx yX12_getting cX12_getting 3 (some .int) 0 := ⟨⟨m_1634, m_14, by decide, by decide, by decide +kernel⟩, by decide⟩
theorem wvX12_353 : zWV RX12 353 12 yX12_getting cX12_getting 3 (some .int) 0 := ⟨zdX12_getting _ _, m_1631, m_1633, RX12, TX12, 41, rfl, p_77⟩
theorem zdX12_draw (own : String) (idx : Nat) : zWd own idx yX12_draw cX12_draw 2 (some .int) 1 := ⟨⟨m_1642, m_14, by decide, by decide, by decide +kernel⟩, by decide⟩
theorem wvX12_360 : zWV RX12 360 12 yX12_draw cX12_draw 2 (some .int) 1 := ⟨zdX12_draw _ _, m_1639, m_1641, RX12, TX12, 41, rfl, p_78⟩
theorem wvX2_23 : zWV RX2 23 10 yX10_become cX10_become 2 (none) 1 := ⟨zdX10_become _ _, m_563, m_564, RX10, TX10, 6, rfl, m_565⟩
theorem wvX3_21 : zWV RX3 21 3 yX3_tell cX3_tell 3 (none) 1 := ⟨zdX3_tell _ _, m_908, m_686, RX3, TX3, 2, rfl, m_687⟩
theorem wvX3_25 : zWV RX3 25 3 yX3_tellFraction cX3_tellFraction 7 (none) 2 := ⟨zdX3_tellFraction _ _, m_917, m_902, RX3, TX3, 2, rfl, m_903⟩
theorem zdX4_namedValue (own : String) (idx : Nat) : zWd own idx yX4_namedValue cX4_namedValue 2 (some .int) 1 := ⟨⟨m_639, m_7, by decide, by decide, by decide +kernel⟩, by decide⟩
theorem wvX4_37 : zWV RX4 37 4 yX4_namedValue cX4_namedValue 2 (some .int) 1 := ⟨zdX4_namedValue _ _, m_636, m_638, RX4, TX4, 4, rfl, p_16⟩
theorem zdX5_readComparison (own : String) (idx : Nat) : zWd own idx yX5_readComparison cX5_readComparison 3 (some .boolean) 1 := ⟨⟨m_411, m_9, by decide, by decide, by decide +kernel⟩, by decide⟩
theorem wvX5_42 : zWV RX5 42 5 yX5_readComparison cX5_readComparison 3 (some .boolean) 1 := ⟨zdX5_readComparison _ _, m_408, m_410, RX5, TX5, 4, rfl, p_2⟩
theorem wvX5_46 : zWV RX5 46 9 yX9_signAt cX9_signAt 2 (some .int) 1 := ⟨zdX9_signAt _ _, m_428, m_361, RX9, TX9, 2, rfl, m_362⟩
theorem zdX5_readSum (own : String) (idx : Nat) : zWd own idx yX5_readSum cX5_readSum 5 (some .boolean) 1 := ⟨⟨m_415, m_9, by decide, by decide, by decide +kernel⟩, by decide⟩
theorem wvX5_50 : zWV RX5 50 5 yX5_readSum cX5_readSum 5 (some .boolean) 1 := ⟨zdX5_readSum _ _, m_412, m_414, RX5, TX5, 4, rfl, p_3⟩
theorem zdX5_seen (own : String) (idx : Nat) : zWd own idx yX5_seen cX5_seen 1 (some .int) 0 := ⟨⟨m_427, m_9, by decide, by decide, by decide +kernel⟩, by decide⟩
theorem wvX5_53 : zWV RX5 53 5 yX5_seen cX5_seen 1 (some .int) 0 := ⟨zdX5_seen _ _, m_424, m_426, RX5, TX5, 4, rfl, p_6⟩
theorem zdX4_add (own : String) (idx : Nat) : zWd own idx yX4_add cX4_add 2 (none) 1 := ⟨⟨m_440, m_7, by decide, by decide, by decide +kernel⟩, by decide⟩
theorem wvX5_57 : zWV RX5 57 4 yX4_add cX4_add 2 (none) 1 := ⟨zdX4_add _ _, m_437, m_438, RX4, TX4, 4, rfl, m_439⟩
theorem zdX5_readProduct (own : String) (idx : Nat) : zWd own idx yX5_readProduct cX5_readProduct 5 (some .boolean) 1 := ⟨⟨m_419, m_9, by decide, by decide, by decide +kernel⟩, by decide⟩
theorem wvX5_61 : zWV RX5 61 5 yX5_readProduct cX5_readProduct 5 (some .boolean) 1 := ⟨zdX5_readProduct _ _, m_416, m_418, RX5, TX5, 4, rfl, p_4⟩
theorem zdX5_readSigned (own : String) (idx : Nat) : zWd own idx yX5_readSigned cX5_readSigned 4 (some .boolean) 1 := ⟨⟨m_423, m_9, by decide, by decide, by decide +kernel⟩, by decide⟩
theorem wvX5_64 : zWV RX5 64 5 yX5_readSigned cX5_readSigned 4 (some .boolean) 1 := ⟨zdX5_readSigned _ _, m_420, m_422, RX5, TX5, 4, rfl, p_5⟩
theorem zdX5_readInBrackets (own : String) (idx : Nat) : zWd own idx yX5_readInBrackets cX5_readInBrackets 2 (some .boolean) 1 := ⟨⟨m_432, m_9, by decide, by decide, by decide +kernel⟩, by decide⟩
theorem wvX5_67 : zWV RX5 67 5 yX5_readInBrackets cX5_readInBrackets 2 (some .boolean) 1 := ⟨zdX5_readInBrackets _ _, m_429, m_431, RX5, TX5, 4, rfl, p_7⟩
theorem zdX5_readNumber (own : String) (idx : Nat) : zWd own idx yX5_readNumber cX5_readNumber 3 (some .boolean) 0 := ⟨⟨m_436, m_9, by decide, by decide, by decide +kernel⟩, by decide⟩
theorem wvX5_70 : zWV RX5 70 5 yX5_readNumber cX5_readNumber 3 (some .boolean) 0 := ⟨zdX5_readNumber _ _, m_433, m_435, RX5, TX5, 4, rfl, p_8⟩
theorem zdX5_readName (own : String) (idx : Nat) : zWd own idx yX5_readName cX5_readName 3 (some .boolean) 0 := ⟨⟨m_444, m_9, by decide, by decide, by decide +kernel⟩, by decide⟩
theorem wvX5_74 : zWV RX5 74 5 yX5_readName cX5_readName 3 (some .boolean) 0 := ⟨zdX5_readName _ _, m_441, m_443, RX5, TX5, 4, rfl, p_9⟩
theorem zdX6_mostFrom (own : String) (idx : Nat) : zWd own idx yX6_mostFrom cX6_mostFrom 6 (some .int) 3 := ⟨⟨m_779, m_11, by decide, by decide, by decide +kernel⟩, by decide⟩
theorem wvX6_21 : zWV RX6 21 6 yX6_mostFrom cX6_mostFrom 6 (some .int) 3 := ⟨zdX6_mostFrom _ _, m_776, m_778, RX6, TX6, 3, rfl, p_20⟩
theorem zdX6_withThing (own : String) (idx : Nat) : zWd own idx yX6_withThing cX6_withThing 4 (some .int) 3 := ⟨⟨m_786, m_11, by decide, by decide, by decide +kernel⟩, by decide⟩
theorem wvX6_29 : zWV RX6 29 6 yX6_withThing cX6_withThing 4 (some .int) 3 := ⟨zdX6_withThing _ _, m_783, m_785, RX6, TX6, 3, rfl, p_21⟩
theorem wvX7_39 : zWV RX7 39 9 yX9_signAt cX9_signAt 2 (some .int) 1 := ⟨zdX9_signAt _ _, m_360, m_361, RX9, TX9, 2, rfl, m_362⟩
theorem wvX7_43 : zWV RX7 43 9 yX9_isEmpty cX9_isEmpty 1 (some .boolean) 0 := ⟨zdX9_isEmpty _ _, m_364, m_365, RX9, TX9, 2, rfl, m_366⟩
theorem wvX8_27 : zWV RX8 27 4 yX4_valueOf cX4_valueOf 10 (some .int) 6 := ⟨zdX4_valueOf _ _, m_754, m_633, RX4, TX4, 4, rfl, m_634⟩
