/-! constants of text: String.length and String.charAt, by contract -/
abbrev st_C : String := "java/lang/String"
abbrev st_L : String := "java/lang/StringLatin1"
abbrev st_P : String := "jdk/internal/util/Preconditions"
abbrev st_F : String := "Ljava/util/function/BiFunction;"
abbrev st_b0 : ByteArray := prog_21_method_154_code
def st_y0 : MethodName := ⟨st_C, "isLatin1", "()Z"⟩
abbrev st_b1 : ByteArray := prog_27_method_11_code
def st_y1 : MethodName := ⟨st_P, "checkIndex", "(IILjava/util/function/BiFunction;)I"⟩
abbrev st_b2 : ByteArray := prog_21_method_155_code
def st_y2 : MethodName := ⟨st_C, "checkIndex", "(II)V"⟩
abbrev st_b3 : ByteArray := prog_22_method_2_code
def st_y3 : MethodName := ⟨st_L, "charAt", "([BI)C"⟩
abbrev st_b4 : ByteArray := prog_21_method_56_code
def st_y4 : MethodName := ⟨st_C, "charAt", "(I)C"⟩
abbrev st_b5 : ByteArray := prog_21_method_152_code
def st_y5 : MethodName := ⟨st_C, "coder", "()B"⟩
abbrev st_b6 : ByteArray := prog_21_method_54_code
def st_y6 : MethodName := ⟨st_C, "length", "()I"⟩
def st_w0 : List Cond := .code st_y0 st_b0 1 (some .boolean) :: [.fieldLink st_C 38 st_C "COMPACT_STRINGS" "Z", .fieldLink st_C 15 st_C "coder" "B"]
def st_w1 : List Cond := .code st_y1 st_b1 3 (some .int) :: []
def st_w2 : List Cond := .code st_y2 st_b2 2 none :: ([.fieldLink st_C 1053 st_P "SIOOBE_FORMATTER" st_F, .methodLink st_C 1059 st_y1, .static st_y1, .initialized st_P] ++ st_w1)
def st_w3 : List Cond := .code st_y3 st_b3 2 (some .char) :: ([.methodLink st_L 9 st_y2, .static st_y2, .initialized st_C] ++ st_w2)
def st_w4 : List Cond := .code st_y4 st_b4 2 (some .char) :: ([.methodLink st_C 492 st_y0, .instanceMethod st_y0, .selects st_C st_y0 st_y0, .initialized st_C, .fieldLink st_C 9 st_C "value" "[B", .methodLink st_C 495 st_y3, .static st_y3, .initialized st_L] ++ st_w0 ++ st_w3)
def st_w5 : List Cond := .code st_y5 st_b5 1 (some .byte) :: [.fieldLink st_C 38 st_C "COMPACT_STRINGS" "Z", .fieldLink st_C 15 st_C "coder" "B"]
def st_w6 : List Cond := .code st_y6 st_b6 1 (some .int) :: ([.fieldLink st_C 9 st_C "value" "[B", .methodLink st_C 335 st_y5, .instanceMethod st_y5, .selects st_C st_y5 st_y5, .initialized st_C] ++ st_w5)
/-- the text at q, of n bytes f, and what the methods read beside it -/
def st_SA (A : Nat → Prop) (q v n : Nat) (f : Nat → Int32) (U : State) (H : Heap) : Prop :=
  va_O st_C q A U H ∧ va_OF st_C "coder" "B" (.int 0) q A U H ∧ va_OF st_C "value" "[B" (.ref v) q A U H ∧ va_T .byte v n (fun j => .int (f j)) A U H ∧ va_Z st_C "COMPACT_STRINGS" "Z" (.int 1) A U H ∧ ∃ fm : Value, fm.isRef = true ∧ va_Z st_P "SIOOBE_FORMATTER" st_F fm A U H
abbrev st_S (q v n : Nat) (f : Nat → Int32) (U : State) (H : Heap) : Prop := st_SA (fun _ => False) q v n f U H
theorem st_S.moved {A : Nat → Prop} {q v n : Nat} {f : Nat → Int32} {u U : State} {H : Heap} (hvm : u.vm.Alike U.vm) (h : st_SA A q v n f u H) : st_SA A q v n f U H := by
  obtain ⟨h1, h2, h3, h4, h5, fm, h0, h6⟩ := h
  exact ⟨h1.moved hvm, h2.moved hvm, h3.moved hvm, h4.moved hvm, h5.moved hvm, fm, h0, h6.moved hvm⟩
theorem st_S.kept {A : Nat → Prop} {q v n : Nat} {f : Nat → Int32} {U : State} {H H1 : Heap} (h : st_SA A q v n f U H) (hq : ∀ a : Nat, a < H.size → ¬ A a → H1[a]? = H[a]?) : st_SA A q v n f U H1 := by
  obtain ⟨h1, h2, h3, h4, h5, fm, h0, h6⟩ := h
  exact ⟨h1.kept hq, h2.kept hq, h3.kept hq, h4.kept hq, h5.kept hq, fm, h0, h6.kept hq⟩
theorem st_S.free {A : Nat → Prop} {q v n : Nat} {f : Nat → Int32} {U : State} {H : Heap} (h : st_SA A q v n f U H) : st_S q v n f U H := by
  obtain ⟨h1, h2, h3, h4, h5, fm, h0, h6⟩ := h
  exact ⟨h1.narrow fun _ z => z.elim, h2.narrow fun _ z => z.elim, h3.narrow fun _ z => z.elim, h4.narrow fun _ z => z.elim, h5.narrow fun _ z => z.elim, fm, h0, h6.narrow fun _ z => z.elim⟩
def st_Q (r : Int32) : Array Value → State → Outcome → State → Prop := fun _ st oc t => oc = .returned (some (.int r)) ∧ t.heap = st.heap
def st_V : Array Value → State → Outcome → State → Prop := fun _ st oc t => oc = .returned none ∧ t.heap = st.heap
abbrev st_N : Addr → Prop := fun _ => False
section STG
variable {p : Program} {l : Launch} {e : Env} {R : Room} {s : State} {m : MethodId} {args : Array Value} {below : List Frame} {meth : Method} {c : Code} {H : Heap} {locs : List Loc} {cells slots : Nat} {Q : State → Prop} {pc : Nat} {ls : Array Slot} {st0 rest : List Value} {a : Array Value}
theorem st_go {r : Int32} (hr : va_Run p l e R s m args below meth c H locs cells slots 0 0 (F0 m pc ls st0) rest (st_Q r a) st_N) (kk : W p l e R s m args below meth c H locs cells slots Q (F0 m (pc + 3) ls (.int r :: rest))) : W p l e R s m args below meth c H locs cells slots Q (F0 m pc ls st0) := by
  intro T hT X
  obtain ⟨v, st₀, t, T', L, h0, X', hL, e1, e2, ⟨hv, hh⟩, st⟩ := hr T hT X
  cases hv
  have hL0 : L = [] := List.eq_nil_iff_forall_not_mem.mpr fun q hq => hL q hq
  subst hL0
  rw [List.append_nil] at X'
  obtain ⟨t2, a1, b1⟩ := kk T' (by rw [e1, hh, h0]) X'
  exact ⟨t2, st t2 a1, b1⟩
theorem st_goV (hr : va_Run p l e R s m args below meth c H locs cells slots 0 0 (F0 m pc ls st0) rest (st_V a) st_N) (kk : W p l e R s m args below meth c H locs cells slots Q (F0 m (pc + 3) ls rest)) : W p l e R s m args below meth c H locs cells slots Q (F0 m pc ls st0) := by
  intro T hT X
  obtain ⟨v, st₀, t, T', L, h0, X', hL, e1, e2, ⟨hv, hh⟩, st⟩ := hr T hT X
  cases hv
  have hL0 : L = [] := List.eq_nil_iff_forall_not_mem.mpr fun q hq => hL q hq
  subst hL0
  rw [List.append_nil] at X'
  obtain ⟨t2, a1, b1⟩ := kk T' (by rw [e1, hh, h0]) X'
  exact ⟨t2, st t2 a1, b1⟩
end STG
theorem st_d00 : decode st_b0 0 = .ok (.getstatic 38, 3) := by decide +kernel
theorem st_d03 : decode st_b0 3 = .ok (.ifCond .eq 14, 3) := by decide +kernel
theorem st_d06 : decode st_b0 6 = .ok (.aload_n 0, 1) := by decide +kernel
theorem st_d07 : decode st_b0 7 = .ok (.getfield 15, 3) := by decide +kernel
theorem st_d0a : decode st_b0 10 = .ok (.ifCond .ne 7, 3) := by decide +kernel
theorem st_d0d : decode st_b0 13 = .ok (.iconst 1, 1) := by decide +kernel
theorem st_d0e : decode st_b0 14 = .ok (.goto 4, 3) := by decide +kernel
theorem st_d0i : decode st_b0 18 = .ok (.ireturn, 1) := by decide +kernel
theorem c_st0 (l : Launch) (q v n : Nat) (f : Nat → Int32) : Met l st_y0 st_w0 ({ frames := 0, cells := 0, slots := 0, locals := 0 }) (va_Pc [.ref q] (fun U => st_S q v n f U U.heap)) (st_Q 1) 0 0 st_N := by
  refine Met.ofW (cc := st_b0) (maxL := 1) (ret := some .boolean) (by decide) rfl ?_
  intro p e s m args below meth c s₁ B hml hv
  obtain ⟨rfl, hO, hC, hV, hT, hZ, fm, hfm, hF⟩ := hv
  have hx := B.exec
  have hb := B.bytes
  have hr := B.returns
  have hts := atoms_spec (ws := st_w0) B.pre
  have hown : s.vm.findClass st_C = some m.cls := findClass_of_methodNamed B.named
  have hlocks := B.notSynchronized
  have hS : va_S (fun _ => False) s.heap s.heap [] := va_S.rf
  have hl := lv_entry ([.ref q]) (n := 1) (Nat.le_of_ble_eq_true rfl)
  rw [lg_entry_eq]
  generalize (lg_sl ([.ref q]) ++ List.replicate (1 - (lg_sl ([.ref q])).length) Slot.unset).toArray = ls at hl ⊢
  have hl : lv_has ls 1 [(0, .ref q)] := hl
  refine va_gets hx hb hZ hS hown (hts (.fieldLink st_C 38 st_C "COMPACT_STRINGS" "Z") (by decide +kernel)) (fun _ h9 => h9) st_d00 ?_
  refine lv_if_eq hx hb st_d03 (tgt := 17) rfl (fun h => absurd h (by decide)) (fun _ => ?_)
  refine lv_aload_n hx hb st_d06 rfl (lv_at hl 0 rfl) ?_
  refine vk_getf hx hb hC hS hown (hts (.fieldLink st_C 15 st_C "coder" "B") (by decide +kernel)) (fun _ h9 => h9) st_d07 ?_
  refine lv_if_ne hx hb st_d0a (tgt := 17) rfl (fun h => absurd rfl h) (fun _ => ?_)
  refine lv_iconst (v := 1) hx hb st_d0d (by decide) ?_
  refine lv_goto hx hb st_d0e (tgt := 18) rfl ?_
  exact W.zret (v := 1) hx hb hr (by decide) (fun t ht hW => ⟨rfl, ht⟩) (fun _ h => absurd h List.not_mem_nil) st_d0i
theorem st_d10 : decode st_b1 0 = .ok (.iload_n 0, 1) := by decide +kernel
theorem st_d11 : decode st_b1 1 = .ok (.ifCond .lt 8, 3) := by decide +kernel
theorem st_d14 : decode st_b1 4 = .ok (.iload_n 0, 1) := by decide +kernel
theorem st_d15 : decode st_b1 5 = .ok (.iload_n 1, 1) := by decide +kernel
theorem st_d16 : decode st_b1 6 = .ok (.if_icmp .lt 10, 3) := by decide +kernel
theorem st_d1g : decode st_b1 16 = .ok (.iload_n 0, 1) := by decide +kernel
theorem st_d1h : decode st_b1 17 = .ok (.ireturn, 1) := by decide +kernel
theorem c_st1 (l : Launch) (i n : Int32) (fm : Value) (hfm : fm.isRef = true) (h0 : ¬ i < 0) (hn : i < n) : Met l st_y1 st_w1 ({ frames := 0, cells := 0, slots := 0, locals := 0 }) (va_Pc [.int i, .int n, fm] (fun _ => True)) (st_Q i) 0 0 st_N := by
  refine Met.ofW (cc := st_b1) (maxL := 3) (ret := some .int) (by decide) rfl ?_
  intro p e s m args below meth c s₁ B hml hv
  obtain ⟨rfl, -⟩ := hv
  have hx := B.exec
  have hb := B.bytes
  have hr := B.returns
  have hlocks := B.notSynchronized
  have hcat : fm.category = 1 := by cases fm <;> first | rfl | cases hfm
  have hl : ∃ ls : Array Slot, entryFrame m ([.int i, .int n, fm] : List Value).toArray 3 = F0 m 0 ls [] ∧ lv_has ls 3 [(0, .int i), (1, .int n), (2, fm)] := by
    rw [lg_entry_eq]
    have hl := lv_entry ([.int i, .int n, fm]) (n := 3) (by cases fm <;> first | exact Nat.le_of_ble_eq_true rfl | cases hfm)
    refine ⟨_, rfl, ?_⟩
    cases fm <;> first | exact hl | cases hfm
  obtain ⟨ls, he, hl⟩ := hl
  rw [he]
  refine lv_iload_n hx hb st_d10 rfl (lv_at hl 0 rfl) ?_
  refine lv_if_lt hx hb st_d11 (tgt := 9) rfl (fun h => absurd h h0) (fun _ => ?_)
  refine lv_iload_n hx hb st_d14 rfl (lv_at hl 0 rfl) ?_
  refine lv_iload_n hx hb st_d15 rfl (lv_at hl 1 rfl) ?_
  refine lv_icmp_lt hx hb st_d16 (tgt := 16) rfl (fun _ => ?_) (fun h => absurd hn h)
  refine lv_iload_n hx hb st_d1g rfl (lv_at hl 0 rfl) ?_
  exact W.iret (v := i) hx hb hr (fun t ht hW => ⟨rfl, ht⟩) (fun _ h => absurd h List.not_mem_nil) st_d1h
theorem st_d20 : decode st_b2 0 = .ok (.iload_n 0, 1) := by decide +kernel
theorem st_d21 : decode st_b2 1 = .ok (.iload_n 1, 1) := by decide +kernel
theorem st_d22 : decode st_b2 2 = .ok (.getstatic 1053, 3) := by decide +kernel
theorem st_d25 : decode st_b2 5 = .ok (.invokestatic 1059, 3) := by decide +kernel
theorem st_d28 : decode st_b2 8 = .ok (.pop, 1) := by decide +kernel
theorem st_d29 : decode st_b2 9 = .ok (.return_, 1) := by decide +kernel
set_option maxRecDepth 20000 in
theorem st_g21 : GoodIn st_w2 st_w1 := goodIn_p _ [5] rfl (by decide +kernel)
theorem c_st2 (l : Launch) (q v n : Nat) (f : Nat → Int32) (i k : Int32) (h0 : ¬ i < 0) (hn : i < k) : Met l st_y2 st_w2 ({ frames := 1, cells := 0, slots := 0, locals := 22 }) (va_Pc [.int i, .int k] (fun U => st_S q v n f U U.heap)) st_V 0 0 st_N := by
  refine Met.ofW (cc := st_b2) (maxL := 2) (ret := none) (by decide) rfl ?_
  intro p e s m args below meth c s₁ B hml hv
  obtain ⟨rfl, hO, hC, hV, hT, hZ, fm, hfm, hF⟩ := hv
  have hx := B.exec
  have hb := B.bytes
  have hr := B.returns
  have hts := atoms_spec (ws := st_w2) B.pre
  have hown : s.vm.findClass st_C = some m.cls := findClass_of_methodNamed B.named
  have hlocks := B.notSynchronized
  have hS : va_S (fun _ => False) s.heap s.heap [] := va_S.rf
  have hl := lv_entry ([.int i, .int k]) (n := 2) (Nat.le_of_ble_eq_true rfl)
  rw [lg_entry_eq]
  generalize (lg_sl ([.int i, .int k]) ++ List.replicate (2 - (lg_sl ([.int i, .int k])).length) Slot.unset).toArray = ls at hl ⊢
  have hl : lv_has ls 2 [(0, .int i), (1, .int k)] := hl
  refine lv_iload_n hx hb st_d20 rfl (lv_at hl 0 rfl) ?_
  refine lv_iload_n hx hb st_d21 rfl (lv_at hl 1 rfl) ?_
  refine va_gets hx hb hF hS hown (hts (.fieldLink st_C 1053 st_P "SIOOBE_FORMATTER" st_F) (by decide +kernel)) (fun _ h9 => h9) st_d22 ?_
  refine st_go (va_runS (As := [.int i, .int k, fm]) (rest := []) ⟨hx, hb, hml, hown, hts⟩ (c_st1 l i k fm hfm h0 hn) ⟨callB_of 3 hts st_g21 rfl rfl rfl (hts (.initialized st_P) (by decide +kernel)) (hts (.methodLink st_C 1059 st_y1) (by decide +kernel)) (by decide +kernel) ⟨Nat.le_of_ble_eq_true rfl, Nat.le_of_ble_eq_true rfl⟩, hts (.static st_y1) (by decide +kernel)⟩ ⟨fun a U g mk q => q, fun U hU hW => ⟨rfl, trivial⟩⟩ rfl rfl hl.1 rfl (lv_room (Nat.le_of_ble_eq_true rfl)) st_d25 ⟨Nat.zero_le _, Nat.zero_le _⟩) ?_
  refine lv_pop hx hb st_d28 rfl ?_
  exact W.vret hx hb hr (fun t ht hW => ⟨rfl, ht⟩) (fun _ h => absurd h List.not_mem_nil) st_d29
theorem st_d30 : decode st_b3 0 = .ok (.iload_n 1, 1) := by decide +kernel
theorem st_d31 : decode st_b3 1 = .ok (.aload_n 0, 1) := by decide +kernel
theorem st_d32 : decode st_b3 2 = .ok (.arraylength, 1) := by decide +kernel
theorem st_d33 : decode st_b3 3 = .ok (.invokestatic 9, 3) := by decide +kernel
theorem st_d36 : decode st_b3 6 = .ok (.aload_n 0, 1) := by decide +kernel
theorem st_d37 : decode st_b3 7 = .ok (.iload_n 1, 1) := by decide +kernel
theorem st_d38 : decode st_b3 8 = .ok (.baload, 1) := by decide +kernel
theorem st_d39 : decode st_b3 9 = .ok (.sipush 255, 3) := by decide +kernel
theorem st_d3c : decode st_b3 12 = .ok (.iand, 1) := by decide +kernel
theorem st_d3d : decode st_b3 13 = .ok (.i2c, 1) := by decide +kernel
theorem st_d3e : decode st_b3 14 = .ok (.ireturn, 1) := by decide +kernel
set_option maxRecDepth 20000 in
theorem st_g32 : GoodIn st_w3 st_w2 := goodIn_p _ [4, 9] rfl (by decide +kernel)
/-- what charAt answers of a byte -/
def st_ch (b : Int32) : Int32 := ((b &&& 255).toUInt32 % 65536).toInt32
theorem st_ch_char (b : Int32) : narrow .char (.int (st_ch b)) = .int (st_ch b) := by
  have h : ∀ u : UInt32, (u % 65536).toUInt16.toUInt32 = u % 65536 := fun u => UInt32.toNat_inj.mp (by simp)
  unfold st_ch
  show Value.int _ = Value.int _
  rw [UInt32.toUInt32_toInt32, h]
theorem c_st3 (l : Launch) (q v n : Nat) (f : Nat → Int32) (i : Int32) (hin : vp_in i n) (hn31 : n < 2 ^ 31) : Met l st_y3 st_w3 ({ frames := 2, cells := 0, slots := 0, locals := 43 }) (va_Pc [.ref v, .int i] (fun U => st_S q v n f U U.heap)) (st_Q (st_ch (f i.toNatClampNeg))) 0 0 st_N := by
  refine Met.ofW (cc := st_b3) (maxL := 2) (ret := some .char) (by decide) rfl ?_
  intro p e s m args below meth c s₁ B hml hv
  obtain ⟨rfl, hO, hC, hV, hT, hZ, fm, hfm, hF⟩ := id hv
  have hx := B.exec
  have hb := B.bytes
  have hr := B.returns
  have hts := atoms_spec (ws := st_w3) B.pre
  have hown : s.vm.findClass st_L = some m.cls := findClass_of_methodNamed B.named
  have hlocks := B.notSynchronized
  have hS : va_S (fun _ => False) s.heap s.heap [] := va_S.rf
  have hl := lv_entry ([.ref v, .int i]) (n := 2) (Nat.le_of_ble_eq_true rfl)
  rw [lg_entry_eq]
  generalize (lg_sl ([.ref v, .int i]) ++ List.replicate (2 - (lg_sl ([.ref v, .int i])).length) Slot.unset).toArray = ls at hl ⊢
  have hl : lv_has ls 2 [(0, .ref v), (1, .int i)] := hl
  have h0 : ¬ i < 0 := fun h => hin (Or.inl h)
  have hlt : i.toNatClampNeg < n := Nat.not_le.mp fun h => hin (Or.inr h)
  have hi : i < Int32.ofNat n := by
    rw [Int32.lt_iff_toInt_lt, Int32.toInt_ofNat_of_lt hn31]
    have h1 : (0 : Int) ≤ i.toInt := by simpa using Int32.le_iff_toInt_le.mp (Int32.not_lt.mp h0)
    have h2 : i.toNatClampNeg = i.toInt.toNat := rfl
    omega
  refine lv_iload_n hx hb st_d30 rfl (lv_at hl 1 rfl) ?_
  refine lv_aload_n hx hb st_d31 rfl (lv_at hl 0 rfl) ?_
  refine va_tlen hx hb hT hS rfl st_d32 ?_
  refine st_goV (va_runS (As := [.int i, .int (Int32.ofNat n)]) (rest := []) ⟨hx, hb, hml, hown, hts⟩ (c_st2 l q v n f i (Int32.ofNat n) h0 hi) ⟨callB_of 2 hts st_g32 rfl rfl rfl (hts (.initialized st_C) (by decide +kernel)) (hts (.methodLink st_L 9 st_y2) (by decide +kernel)) (by decide +kernel) ⟨Nat.le_of_ble_eq_true rfl, Nat.le_of_ble_eq_true rfl⟩, hts (.static st_y2) (by decide +kernel)⟩ ⟨fun a U g mk q => ⟨q.1, st_S.moved (u := U) (U := U.calling g mk a) (Vm.Alike.refl U.vm) q.2⟩, fun U hU hW => ⟨rfl, by show st_S q v n f U U.heap; rw [hU]; exact st_S.moved hW.alike hv.2⟩⟩ rfl rfl hl.1 rfl (lv_room (Nat.le_of_ble_eq_true rfl)) st_d33 ⟨Nat.zero_le _, Nat.zero_le _⟩) ?_
  refine lv_aload_n hx hb st_d36 rfl (lv_at hl 0 rfl) ?_
  refine lv_iload_n hx hb st_d37 rfl (lv_at hl 1 rfl) ?_
  refine va_tb hx hb hT hS hin rfl st_d38 ?_
  refine lv_sipush (v := 255) hx hb st_d39 (by decide) ?_
  refine lv_iand hx hb st_d3c ?_
  refine lv_i2c hx hb st_d3d rfl ?_
  exact W.zret (v := st_ch (f i.toNatClampNeg)) hx hb hr (st_ch_char _) (fun t ht hW => ⟨rfl, ht⟩) (fun _ h => absurd h List.not_mem_nil) st_d3e
theorem st_d40 : decode st_b4 0 = .ok (.aload_n 0, 1) := by decide +kernel
theorem st_d41 : decode st_b4 1 = .ok (.invokevirtual 492, 3) := by decide +kernel
theorem st_d44 : decode st_b4 4 = .ok (.ifCond .eq 12, 3) := by decide +kernel
theorem st_d47 : decode st_b4 7 = .ok (.aload_n 0, 1) := by decide +kernel
theorem st_d48 : decode st_b4 8 = .ok (.getfield 9, 3) := by decide +kernel
theorem st_d4b : decode st_b4 11 = .ok (.iload_n 1, 1) := by decide +kernel
theorem st_d4c : decode st_b4 12 = .ok (.invokestatic 495, 3) := by decide +kernel
theorem st_d4f : decode st_b4 15 = .ok (.ireturn, 1) := by decide +kernel
set_option maxRecDepth 20000 in
theorem st_g40 : GoodIn st_w4 (wsV st_C 492 st_C st_y0 st_w0) := goodIn_p _ [9] rfl (by decide +kernel)
set_option maxRecDepth 20000 in
theorem st_g43 : GoodIn st_w4 st_w3 := goodIn_p _ [12, 16, 21] rfl (by decide +kernel)
theorem c_st4 (l : Launch) (q v n : Nat) (f : Nat → Int32) (i : Int32) (hin : vp_in i n) (hn31 : n < 2 ^ 31) : Met l st_y4 st_w4 ({ frames := 3, cells := 0, slots := 0, locals := 64 }) (va_Pc [.ref q, .int i] (fun U => st_S q v n f U U.heap)) (st_Q (st_ch (f i.toNatClampNeg))) 0 0 st_N := by
  refine Met.ofW (cc := st_b4) (maxL := 2) (ret := some .char) (by decide) rfl ?_
  intro p e s m args below meth c s₁ B hml hv
  obtain ⟨rfl, hO, hC, hV, hT, hZ, fm, hfm, hF⟩ := id hv
  have hx := B.exec
  have hb := B.bytes
  have hr := B.returns
  have hts := atoms_spec (ws := st_w4) B.pre
  have hown : s.vm.findClass st_C = some m.cls := findClass_of_methodNamed B.named
  have hlocks := B.notSynchronized
  have hS : va_S (fun _ => False) s.heap s.heap [] := va_S.rf
  have hl := lv_entry ([.ref q, .int i]) (n := 2) (Nat.le_of_ble_eq_true rfl)
  rw [lg_entry_eq]
  generalize (lg_sl ([.ref q, .int i]) ++ List.replicate (2 - (lg_sl ([.ref q, .int i])).length) Slot.unset).toArray = ls at hl ⊢
  have hl : lv_has ls 2 [(0, .ref q), (1, .int i)] := hl
  refine lv_aload_n hx hb st_d40 rfl (lv_at hl 0 rfl) ?_
  refine st_go (va_runV (As := []) (rest := []) ⟨hx, hb, hml, hown, hts⟩ (c_st0 l q v n f) (cwV 0 hts st_g40 rfl rfl rfl (by decide +kernel) ⟨Nat.le_of_ble_eq_true rfl, Nat.le_of_ble_eq_true rfl⟩) ⟨fun a U g mk q => ⟨q.1, st_S.moved (u := U) (U := U.calling g mk a) (Vm.Alike.refl U.vm) q.2⟩, (by obtain ⟨cell, z1, z2, z3, -⟩ := hO; exact ⟨cell, z1, z2, z3⟩), fun U hU hW => ⟨rfl, by show st_S q v n f U U.heap; rw [hU]; exact st_S.moved hW.alike hv.2⟩⟩ rfl rfl hl.1 rfl (lv_room (Nat.le_of_ble_eq_true rfl)) st_d41 ⟨Nat.zero_le _, Nat.zero_le _⟩) ?_
  refine lv_if_eq hx hb st_d44 (tgt := 16) rfl (fun h => absurd h (by decide)) (fun _ => ?_)
  refine lv_aload_n hx hb st_d47 rfl (lv_at hl 0 rfl) ?_
  refine vk_getf hx hb hV hS hown (hts (.fieldLink st_C 9 st_C "value" "[B") (by decide +kernel)) (fun _ h9 => h9) st_d48 ?_
  refine lv_iload_n hx hb st_d4b rfl (lv_at hl 1 rfl) ?_
  refine st_go (va_runS (As := [.ref v, .int i]) (rest := []) ⟨hx, hb, hml, hown, hts⟩ (c_st3 l q v n f i hin hn31) ⟨callB_of 2 hts st_g43 rfl rfl rfl (hts (.initialized st_L) (by decide +kernel)) (hts (.methodLink st_C 495 st_y3) (by decide +kernel)) (by decide +kernel) ⟨Nat.le_of_ble_eq_true rfl, Nat.le_of_ble_eq_true rfl⟩, hts (.static st_y3) (by decide +kernel)⟩ ⟨fun a U g mk q => ⟨q.1, st_S.moved (u := U) (U := U.calling g mk a) (Vm.Alike.refl U.vm) q.2⟩, fun U hU hW => ⟨rfl, by show st_S q v n f U U.heap; rw [hU]; exact st_S.moved hW.alike hv.2⟩⟩ rfl rfl hl.1 rfl (lv_room (Nat.le_of_ble_eq_true rfl)) st_d4c ⟨Nat.zero_le _, Nat.zero_le _⟩) ?_
  exact W.zret (v := st_ch (f i.toNatClampNeg)) hx hb hr (st_ch_char _) (fun t ht hW => ⟨rfl, ht⟩) (fun _ h => absurd h List.not_mem_nil) st_d4f
theorem st_d50 : decode st_b5 0 = .ok (.getstatic 38, 3) := by decide +kernel
theorem st_d53 : decode st_b5 3 = .ok (.ifCond .eq 10, 3) := by decide +kernel
theorem st_d56 : decode st_b5 6 = .ok (.aload_n 0, 1) := by decide +kernel
theorem st_d57 : decode st_b5 7 = .ok (.getfield 15, 3) := by decide +kernel
theorem st_d5a : decode st_b5 10 = .ok (.goto 4, 3) := by decide +kernel
theorem st_d5e : decode st_b5 14 = .ok (.ireturn, 1) := by decide +kernel
theorem c_st5 (l : Launch) (q v n : Nat) (f : Nat → Int32) : Met l st_y5 st_w5 ({ frames := 0, cells := 0, slots := 0, locals := 0 }) (va_Pc [.ref q] (fun U => st_S q v n f U U.heap)) (st_Q 0) 0 0 st_N := by
  refine Met.ofW (cc := st_b5) (maxL := 1) (ret := some .byte) (by decide) rfl ?_
  intro p e s m args below meth c s₁ B hml hv
  obtain ⟨rfl, hO, hC, hV, hT, hZ, fm, hfm, hF⟩ := hv
  have hx := B.exec
  have hb := B.bytes
  have hr := B.returns
  have hts := atoms_spec (ws := st_w5) B.pre
  have hown : s.vm.findClass st_C = some m.cls := findClass_of_methodNamed B.named
  have hlocks := B.notSynchronized
  have hS : va_S (fun _ => False) s.heap s.heap [] := va_S.rf
  have hl := lv_entry ([.ref q]) (n := 1) (Nat.le_of_ble_eq_true rfl)
  rw [lg_entry_eq]
  generalize (lg_sl ([.ref q]) ++ List.replicate (1 - (lg_sl ([.ref q])).length) Slot.unset).toArray = ls at hl ⊢
  have hl : lv_has ls 1 [(0, .ref q)] := hl
  refine va_gets hx hb hZ hS hown (hts (.fieldLink st_C 38 st_C "COMPACT_STRINGS" "Z") (by decide +kernel)) (fun _ h9 => h9) st_d50 ?_
  refine lv_if_eq hx hb st_d53 (tgt := 13) rfl (fun h => absurd h (by decide)) (fun _ => ?_)
  refine lv_aload_n hx hb st_d56 rfl (lv_at hl 0 rfl) ?_
  refine vk_getf hx hb hC hS hown (hts (.fieldLink st_C 15 st_C "coder" "B") (by decide +kernel)) (fun _ h9 => h9) st_d57 ?_
  refine lv_goto hx hb st_d5a (tgt := 14) rfl ?_
  exact W.zret (v := 0) hx hb hr (by decide) (fun t ht hW => ⟨rfl, ht⟩) (fun _ h => absurd h List.not_mem_nil) st_d5e
theorem st_d60 : decode st_b6 0 = .ok (.aload_n 0, 1) := by decide +kernel
theorem st_d61 : decode st_b6 1 = .ok (.getfield 9, 3) := by decide +kernel
theorem st_d64 : decode st_b6 4 = .ok (.arraylength, 1) := by decide +kernel
theorem st_d65 : decode st_b6 5 = .ok (.aload_n 0, 1) := by decide +kernel
theorem st_d66 : decode st_b6 6 = .ok (.invokevirtual 335, 3) := by decide +kernel
theorem st_d69 : decode st_b6 9 = .ok (.ishr, 1) := by decide +kernel
theorem st_d6a : decode st_b6 10 = .ok (.ireturn, 1) := by decide +kernel
set_option maxRecDepth 20000 in
theorem st_g65 : GoodIn st_w6 (wsV st_C 335 st_C st_y5 st_w5) := goodIn_p _ [6] rfl (by decide +kernel)
theorem c_st6 (l : Launch) (q v n : Nat) (f : Nat → Int32) : Met l st_y6 st_w6 ({ frames := 1, cells := 0, slots := 0, locals := 20 }) (va_Pc [.ref q] (fun U => st_S q v n f U U.heap)) (st_Q (Int32.ofNat n)) 0 0 st_N := by
  refine Met.ofW (cc := st_b6) (maxL := 1) (ret := some .int) (by decide) rfl ?_
  intro p e s m args below meth c s₁ B hml hv
  obtain ⟨rfl, hO, hC, hV, hT, hZ, fm, hfm, hF⟩ := id hv
  have hx := B.exec
  have hb := B.bytes
  have hr := B.returns
  have hts := atoms_spec (ws := st_w6) B.pre
  have hown : s.vm.findClass st_C = some m.cls := findClass_of_methodNamed B.named
  have hlocks := B.notSynchronized
  have hS : va_S (fun _ => False) s.heap s.heap [] := va_S.rf
  have hl := lv_entry ([.ref q]) (n := 1) (Nat.le_of_ble_eq_true rfl)
  rw [lg_entry_eq]
  generalize (lg_sl ([.ref q]) ++ List.replicate (1 - (lg_sl ([.ref q])).length) Slot.unset).toArray = ls at hl ⊢
  have hl : lv_has ls 1 [(0, .ref q)] := hl
  refine lv_aload_n hx hb st_d60 rfl (lv_at hl 0 rfl) ?_
  refine vk_getf hx hb hV hS hown (hts (.fieldLink st_C 9 st_C "value" "[B") (by decide +kernel)) (fun _ h9 => h9) st_d61 ?_
  refine va_tlen hx hb hT hS rfl st_d64 ?_
  refine lv_aload_n hx hb st_d65 rfl (lv_at hl 0 rfl) ?_
  refine st_go (va_runV (As := []) (rest := [.int (Int32.ofNat n)]) ⟨hx, hb, hml, hown, hts⟩ (c_st5 l q v n f) (cwV 0 hts st_g65 rfl rfl rfl (by decide +kernel) ⟨Nat.le_of_ble_eq_true rfl, Nat.le_of_ble_eq_true rfl⟩) ⟨fun a U g mk q => ⟨q.1, st_S.moved (u := U) (U := U.calling g mk a) (Vm.Alike.refl U.vm) q.2⟩, (by obtain ⟨cell, z1, z2, z3, -⟩ := hO; exact ⟨cell, z1, z2, z3⟩), fun U hU hW => ⟨rfl, by show st_S q v n f U U.heap; rw [hU]; exact st_S.moved hW.alike hv.2⟩⟩ rfl rfl hl.1 rfl (lv_room (Nat.le_of_ble_eq_true rfl)) st_d66 ⟨Nat.zero_le _, Nat.zero_le _⟩) ?_
  refine lv_ishr hx hb st_d69 ?_
  refine W.eq (g2 := F0 m 10 ls [.int (Int32.ofNat n)]) (by rw [show Int32.ofNat n >>> ((0 : Int32) &&& 31) = Int32.ofNat n from by rw [show ((0 : Int32) &&& 31) = 0 by decide, Int32.shiftRight_zero]]) ?_
  exact W.iret (v := Int32.ofNat n) hx hb hr (fun t ht hW => ⟨rfl, ht⟩) (fun _ h => absurd h List.not_mem_nil) st_d6a
