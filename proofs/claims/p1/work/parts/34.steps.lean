/-! single steps of the small machine, in the form 'it ends so' -/
def mv_ends (G : mv_G) (y fb lb : Nat) (S : mv_S) (E : mv_E) : Prop := ∃ m, mv_run G m y fb lb S = some E
def en_ok : Instr → Bool
  | .invokestatic _ => false
  | .invokespecial _ => false
  | .invokevirtual _ => false
  | .new _ => false
  | .iaload => false
  | .arraylength => false
  | .ireturn => false
  | .areturn => false
  | .return_ => false
  | .athrow => false
  | _ => true
def en_has (lo : List (Nat × Value)) (i : Nat) (v : Value) : Prop := ∃ j, mv_find i lo 0 = some (j, v)
theorem en_has_keep {lo : List (Nat × Value)} {i j : Nat} {v w : Value} (h : en_has lo j v) (hne : j ≠ i) (hc : v.category = 1) : en_has ((i, w) :: mv_keep i lo) j v := by
  obtain ⟨k, hk⟩ := h
  unfold en_has mv_find
  rw [if_neg (Ne.symm hne)]
  exact ab_find_keep hne lo 0 1 k v hc hk
theorem en_has_new {lo : List (Nat × Value)} {i : Nat} {w : Value} : en_has ((i, w) :: mv_keep i lo) i w := by
  unfold en_has mv_find
  rw [if_pos rfl]
  exact ⟨_, rfl⟩
section ENS
variable {G : mv_G} {y fb lb pc : Nat} {lo : List (Nat × Value)} {st : List Value} {hp : List va_E} {cb sb : Nat} {E : mv_E}
theorem en_ins {n : Nat} {i : Instr} {S' : mv_S} (hI : mv_gI G y pc = some (i, n)) (hs : en_ok i = true) (h : mv_ins G y pc lo st hp cb sb n i = some (.inl S')) (k : mv_ends G y fb lb S' E) : mv_ends G y fb lb (pc, lo, st, hp, cb, sb) E := by
  obtain ⟨m, k⟩ := k
  refine ⟨m + 1, ?_⟩
  have hpl : ab_plain i = true := by cases i <;> first | rfl | cases hs
  have hex : mv_exec G y (pc, lo, st, hp, cb, sb) = some (.inl S') := by
    unfold mv_exec
    simp only [hI]
    cases i <;> first | exact congrArg mv_og h | cases hs
  rw [mv_run, ab_nat_none (S := (pc, lo, st, hp, cb, sb)) hI hpl]
  dsimp only
  rw [hex]
  exact k
theorem en_ild {i : Fin 4} {q : Nat} {x : Int32} (hI : mv_gI G y pc = some (.iload_n i, 1)) (h : en_has lo q (.int x)) (k : mv_ends G y fb lb (pc + 1, lo, .int x :: st, hp, cb, sb) E) (hq : i.val = q := by rfl) : mv_ends G y fb lb (pc, lo, st, hp, cb, sb) E := by
  subst hq
  obtain ⟨j, h⟩ := h
  refine en_ins hI rfl ?_ k
  show mv_g 1 1 (mv_load pc lo st hp cb sb i 1 mv_int) = _
  unfold mv_g mv_load
  rw [if_pos rfl, h]
  rfl
theorem en_ald {i : Fin 4} {q : Nat} {a : Nat} (hI : mv_gI G y pc = some (.aload_n i, 1)) (h : en_has lo q (.ref a)) (k : mv_ends G y fb lb (pc + 1, lo, .ref a :: st, hp, cb, sb) E) (hq : i.val = q := by rfl) : mv_ends G y fb lb (pc, lo, st, hp, cb, sb) E := by
  subst hq
  obtain ⟨j, h⟩ := h
  refine en_ins hI rfl ?_ k
  show mv_g 1 1 (mv_load pc lo st hp cb sb i 1 mv_rfv) = _
  unfold mv_g mv_load
  rw [if_pos rfl, h]
  rfl
theorem en_psh {v : Int} (hI : mv_gI G y pc = some (.iconst v, 1)) (k : mv_ends G y fb lb (pc + 1, lo, .int (Int32.ofInt v) :: st, hp, cb, sb) E) : mv_ends G y fb lb (pc, lo, st, hp, cb, sb) E := by
  refine en_ins hI rfl ?_ k
  show mv_g 1 1 _ = _
  unfold mv_g
  rw [if_pos rfl]
  rfl
theorem en_sps {v : Int} (hI : mv_gI G y pc = some (.sipush v, 3)) (k : mv_ends G y fb lb (pc + 3, lo, .int (Int16.ofInt v).toInt32 :: st, hp, cb, sb) E) : mv_ends G y fb lb (pc, lo, st, hp, cb, sb) E := by
  refine en_ins hI rfl ?_ k
  show mv_g 3 3 _ = _
  unfold mv_g
  rw [if_pos rfl]
  rfl
theorem en_ist {i : Fin 4} {q : Nat} {x : Int32} {r : List Value} (hI : mv_gI G y pc = some (.istore_n i, 1)) (hL : q < mv_gL G y) (k : mv_ends G y fb lb (pc + 1, (q, .int x) :: mv_keep q lo, r, hp, cb, sb) E) (hq : i.val = q := by rfl) : mv_ends G y fb lb (pc, lo, .int x :: r, hp, cb, sb) E := by
  subst hq
  refine en_ins hI rfl ?_ k
  show mv_g 1 1 (mv_store G y pc lo (.int x :: r) hp cb sb i 1 mv_int) = _
  unfold mv_g mv_store
  rw [if_pos rfl]
  dsimp only
  rw [if_pos ⟨rfl, hL⟩]
theorem en_inc {i : Nat} {v : Int} {x : Int32} (hI : mv_gI G y pc = some (.iinc i v, 3)) (h : en_has lo i (.int x)) (hL : i < mv_gL G y) (k : mv_ends G y fb lb (pc + 3, (i, .int (x + Int32.ofInt v)) :: mv_keep i lo, st, hp, cb, sb) E) : mv_ends G y fb lb (pc, lo, st, hp, cb, sb) E := by
  obtain ⟨j, h⟩ := h
  refine en_ins hI rfl ?_ k
  show (if 3 = 3 then mv_inc G y pc lo st hp cb sb i v 3 else mv_g 3 6 (mv_inc G y pc lo st hp cb sb i v 6)) = _
  rw [if_pos rfl]
  unfold mv_inc
  rw [h]
  dsimp only
  rw [if_pos hL]
theorem en_icm {c : Jvm.ClassFile.Cond} {off : Int} {t : Nat} {a b : Int32} {r : List Value} (hI : mv_gI G y pc = some (.if_icmp c off, 3)) (ht : mv_tgt pc off = some t) (k : mv_ends G y fb lb (if mv_cond c a b = true then t else pc + 3, lo, r, hp, cb, sb) E) : mv_ends G y fb lb (pc, lo, .int b :: .int a :: r, hp, cb, sb) E := by
  refine en_ins hI rfl ?_ k
  show mv_g 3 3 (mv_icmp pc lo (.int b :: .int a :: r) hp cb sb c off) = _
  unfold mv_g mv_icmp mv_jump
  rw [if_pos rfl]
  dsimp only
  rw [ht]
theorem en_ifc {c : Jvm.ClassFile.Cond} {off : Int} {t : Nat} {a : Int32} {r : List Value} (hI : mv_gI G y pc = some (.ifCond c off, 3)) (ht : mv_tgt pc off = some t) (k : mv_ends G y fb lb (if mv_cond c a 0 = true then t else pc + 3, lo, r, hp, cb, sb) E) : mv_ends G y fb lb (pc, lo, .int a :: r, hp, cb, sb) E := by
  refine en_ins hI rfl ?_ k
  show mv_g 3 3 (mv_if pc lo (.int a :: r) hp cb sb c off) = _
  unfold mv_g mv_if mv_jump
  rw [if_pos rfl]
  dsimp only
  rw [ht]
theorem en_go {off : Int} {t : Nat} (hI : mv_gI G y pc = some (.goto off, 3)) (ht : mv_tgt pc off = some t) (k : mv_ends G y fb lb (t, lo, st, hp, cb, sb) E) : mv_ends G y fb lb (pc, lo, st, hp, cb, sb) E := by
  refine en_ins hI rfl ?_ k
  show mv_g 3 3 (mv_jump pc lo hp cb sb off true st) = _
  unfold mv_g mv_jump
  rw [if_pos rfl, ht]
  rfl
theorem en_iast {x i : Int32} {a n : Nat} {f : Nat → Int32} {r : List Value} (hI : mv_gI G y pc = some (.iastore, 1)) (ha : hp[a]? = some (.inl (0, n, .inl f))) (ho : mv_out i n = false) (k : mv_ends G y fb lb (pc + 1, lo, r, hp.set a (.inl (0, n, .inl (fun j => if j = i.toNatClampNeg then x else f j))), cb, sb) E) : mv_ends G y fb lb (pc, lo, .int x :: .int i :: .ref a :: r, hp, cb, sb) E := by
  refine en_ins hI rfl ?_ k
  show mv_g 1 1 (mv_iast pc lo (.int x :: .int i :: .ref a :: r) hp cb sb) = _
  unfold mv_g mv_iast
  rw [if_pos rfl]
  dsimp only
  rw [ha]
  show (if mv_out i n = true then none else _) = _
  rw [if_neg (by rw [ho]; decide)]
  rfl
theorem en_get {idx ci k : Nat} {a : Nat} {fs : List Value} {v : Value} {r : List Value} (hI : mv_gI G y pc = some (.getfield idx, 3)) (hF : mv_gF G y idx = some (ci, k)) (ha : hp[a]? = some (.inr (ci, fs))) (hv : fs[k]? = some v) (q : mv_ends G y fb lb (pc + 3, lo, v :: r, hp, cb, sb) E) : mv_ends G y fb lb (pc, lo, .ref a :: r, hp, cb, sb) E := by
  refine en_ins hI rfl ?_ q
  show mv_g 3 3 (mv_get G y pc lo (.ref a :: r) hp cb sb idx) = _
  unfold mv_g mv_get
  rw [if_pos rfl]
  dsimp only
  rw [ha, hF]
  dsimp only
  rw [if_pos rfl, hv]
theorem en_put {idx ci k : Nat} {a : Nat} {fs : List Value} {v : Value} {ty : FieldType} {r : List Value} (hI : mv_gI G y pc = some (.putfield idx, 3)) (hF : mv_gF G y idx = some (ci, k)) (hT : mv_gT G ci k = some ty) (hP : mv_gP G ci k = false) (hn : narrow ty v = v) (hf : fits ty v = true) (ha : hp[a]? = some (.inr (ci, fs))) (hk : k < fs.length) (q : mv_ends G y fb lb (pc + 3, lo, r, hp.set a (.inr (ci, fs.set k v)), cb, sb) E) : mv_ends G y fb lb (pc, lo, v :: .ref a :: r, hp, cb, sb) E := by
  refine en_ins hI rfl ?_ q
  show mv_g 3 3 (mv_put G y pc lo (v :: .ref a :: r) hp cb sb idx) = _
  unfold mv_g mv_put
  rw [if_pos rfl]
  dsimp only
  rw [ha, hF]
  dsimp only
  rw [hT]
  dsimp only
  rw [if_pos ⟨rfl, hn, hf, hk, fun e => by rw [hP] at e; cases e⟩]
theorem en_add {a b : Int32} {r : List Value} (hI : mv_gI G y pc = some (.iadd, 1)) (k : mv_ends G y fb lb (pc + 1, lo, .int (a + b) :: r, hp, cb, sb) E) : mv_ends G y fb lb (pc, lo, .int b :: .int a :: r, hp, cb, sb) E := by
  refine en_ins hI rfl ?_ k
  show mv_g 1 1 _ = _
  unfold mv_g
  rw [if_pos rfl]
  rfl
theorem en_mul {a b : Int32} {r : List Value} (hI : mv_gI G y pc = some (.imul, 1)) (k : mv_ends G y fb lb (pc + 1, lo, .int (a * b) :: r, hp, cb, sb) E) : mv_ends G y fb lb (pc, lo, .int b :: .int a :: r, hp, cb, sb) E := by
  refine en_ins hI rfl ?_ k
  show mv_g 1 1 _ = _
  unfold mv_g
  rw [if_pos rfl]
  rfl
theorem en_div {a b : Int32} {r : List Value} (hI : mv_gI G y pc = some (.idiv, 1)) (hb : b ≠ 0) (k : mv_ends G y fb lb (pc + 1, lo, .int (a / b) :: r, hp, cb, sb) E) : mv_ends G y fb lb (pc, lo, .int b :: .int a :: r, hp, cb, sb) E := by
  refine en_ins hI rfl ?_ k
  show mv_g 1 1 (mv_dvd pc lo (.int b :: .int a :: r) hp cb sb mv_f_idiv) = _
  unfold mv_g mv_dvd
  rw [if_pos rfl]
  dsimp only
  rw [if_neg hb]
  rfl
theorem en_rem {a b : Int32} {r : List Value} (hI : mv_gI G y pc = some (.irem, 1)) (hb : b ≠ 0) (k : mv_ends G y fb lb (pc + 1, lo, .int (a - a / b * b) :: r, hp, cb, sb) E) : mv_ends G y fb lb (pc, lo, .int b :: .int a :: r, hp, cb, sb) E := by
  refine en_ins hI rfl ?_ k
  show mv_g 1 1 (mv_dvd pc lo (.int b :: .int a :: r) hp cb sb mv_f_irem) = _
  unfold mv_g mv_dvd
  rw [if_pos rfl]
  dsimp only
  rw [if_neg hb]
  rfl
theorem en_iald {i : Int32} {a n : Nat} {f : Nat → Int32} {r : List Value} (hI : mv_gI G y pc = some (.iaload, 1)) (hS : mv_gS G a = none) (ha : hp[a]? = some (.inl (0, n, .inl f))) (ho : mv_out i n = false) (k : mv_ends G y fb lb (pc + 1, lo, .int (f i.toNatClampNeg) :: r, hp, cb, sb) E) : mv_ends G y fb lb (pc, lo, .int i :: .ref a :: r, hp, cb, sb) E := by
  obtain ⟨m, k⟩ := k
  refine ⟨m + 1, ?_⟩
  have hnat : mv_nat G y fb lb (pc, lo, .int i :: .ref a :: r, hp, cb, sb) = none := by
    unfold mv_nat
    simp only [hI]
    unfold mv_xald
    simp only [hS]
  have hex : mv_exec G y (pc, lo, .int i :: .ref a :: r, hp, cb, sb) = some (.inl (pc + 1, lo, .int (f i.toNatClampNeg) :: r, hp, cb, sb)) := by
    unfold mv_exec
    simp only [hI]
    show mv_og (mv_g 1 1 (mv_iald pc lo (.int i :: .ref a :: r) hp cb sb)) = _
    unfold mv_g mv_iald
    rw [if_pos rfl]
    dsimp only
    rw [ha]
    show mv_og (if mv_out i n = true then none else _) = _
    rw [if_neg (by rw [ho]; decide)]
    rfl
  rw [mv_run, hnat]
  dsimp only
  rw [hex]
  exact k
theorem en_alen {a n : Nat} {f : Nat → Int32} {ty : FieldType} {r : List Value} (hI : mv_gI G y pc = some (.arraylength, 1)) (hS : mv_gS G a = none) (hY : mv_gY G 0 = some ty) (ha : hp[a]? = some (.inl (0, n, .inl f))) (k : mv_ends G y fb lb (pc + 1, lo, .int (Int32.ofNat n) :: r, hp, cb, sb) E) : mv_ends G y fb lb (pc, lo, .ref a :: r, hp, cb, sb) E := by
  obtain ⟨m, k⟩ := k
  refine ⟨m + 1, ?_⟩
  have hnat : mv_nat G y fb lb (pc, lo, .ref a :: r, hp, cb, sb) = none := by
    unfold mv_nat
    simp only [hI]
    unfold mv_xlen
    simp only [hS]
  have hex : mv_exec G y (pc, lo, .ref a :: r, hp, cb, sb) = some (.inl (pc + 1, lo, .int (Int32.ofNat n) :: r, hp, cb, sb)) := by
    unfold mv_exec
    simp only [hI]
    show mv_og (mv_g 1 1 (mv_alen G pc lo (.ref a :: r) hp cb sb)) = _
    unfold mv_g mv_alen
    rw [if_pos rfl]
    dsimp only
    rw [ha]
    dsimp only
    rw [hY]
    rfl
  rw [mv_run, hnat]
  dsimp only
  rw [hex]
  exact k
theorem en_iret {x : Int32} (hI : mv_gI G y pc = some (.ireturn, 1)) (hR : mv_gR G y = some .int) : mv_ends G y fb lb (pc, lo, [.int x], hp, cb, sb) (.inr (some (.int x)), hp, cb, sb) := by
  refine ⟨1, ?_⟩
  have hnat : mv_nat G y fb lb (pc, lo, [.int x], hp, cb, sb) = none := ab_nat_none (S := (pc, lo, [.int x], hp, cb, sb)) hI rfl
  have hex : mv_exec G y (pc, lo, [.int x], hp, cb, sb) = some (.inr (.inr (.inl (some (.int x))))) := by
    unfold mv_exec
    simp only [hI]
    show mv_g 1 1 (mv_iret G y [.int x]) = _
    unfold mv_g mv_iret
    rw [if_pos rfl]
    dsimp only
    rw [hR]
    dsimp only
    rw [if_pos (show narrow .int (.int x) = .int x from rfl)]
  rw [mv_run, hnat]
  dsimp only
  rw [hex]
theorem en_vret (hI : mv_gI G y pc = some (.return_, 1)) (hR : mv_gR G y = none) : mv_ends G y fb lb (pc, lo, [], hp, cb, sb) (.inr none, hp, cb, sb) := by
  refine ⟨1, ?_⟩
  have hnat : mv_nat G y fb lb (pc, lo, [], hp, cb, sb) = none := ab_nat_none (S := (pc, lo, [], hp, cb, sb)) hI rfl
  have hex : mv_exec G y (pc, lo, [], hp, cb, sb) = some (.inr (.inr (.inl none))) := by
    unfold mv_exec
    simp only [hI]
    show mv_g 1 1 (mv_vret G y []) = _
    unfold mv_g mv_vret
    rw [if_pos rfl]
    dsimp only
    rw [hR]
  rw [mv_run, hnat]
  dsimp only
  rw [hex]
end ENS
/-! numbers -/
theorem en_nat {n : Nat} (h : n < 2147483648) : (Int32.ofNat n).toInt = (n : Int) := Int32.toInt_ofNat_of_lt h
theorem en_out {i n : Nat} (h : i < n) (hn : n < 2147483648) : mv_out (Int32.ofNat i) n = false := by
  have h1 : (Int32.ofNat i).toInt = (i : Int) := en_nat (by omega)
  have h2 : (Int32.ofNat i).toNatClampNeg = i := Int32.toNatClampNeg_ofNat_of_lt (by omega)
  unfold mv_out
  rw [decide_eq_false_iff_not]
  rintro (h3 | h3)
  · rw [Int32.lt_iff_toInt_lt, h1] at h3
    have h4 : (0 : Int32).toInt = 0 := rfl
    omega
  · omega
theorem en_ge {a b : Int32} : mv_cond .ge a b = true ↔ b.toInt ≤ a.toInt := by
  unfold mv_cond
  rw [decide_eq_true_iff, Int32.le_iff_toInt_le]
theorem en_same {hp : List va_E} {a : Nat} {e : va_E} (h : hp[a]? = some e) : hp.set a e = hp := by
  apply List.ext_getElem?
  intro k
  rw [List.getElem?_set]
  split
  · rename_i hk
    subst hk
    rw [if_pos (List.getElem?_eq_some_iff.mp h).1]
    exact h.symm
  · rfl
