section
/-! THE SMALL MACHINE (mv_): the decoded instructions run over locals as a list of pairs, a stack of values and a heap as a list of cells. Its pointer k stands for the address mv_ad .. k of the real machine; in its heap an array's class is the number of its type. -/
/-- a state: pc, locals, operand stack, heap, cells and slots that may still be made -/
abbrev mv_S : Type := Nat × List (Nat × Value) × List Value × List va_E × Nat × Nat
/-- what an instruction comes to: it goes on; it calls (method, arguments, the stack below them, its length); it returns; it throws -/
abbrev mv_R : Type := mv_S ⊕ ((Nat × List Value × List Value × Nat) ⊕ (Option Value ⊕ Nat))
/-- what a call comes to: it has thrown, or returned; the heap, what may still be made -/
abbrev mv_E : Type := (Nat ⊕ Option Value) × List va_E × Nat × Nat
/-- the tables: instructions; fields (class, place; by method and constant pool number); classes to make; types of arrays to make; calls (kind, method, how many arguments); constants; locals of a method; handlers; slots of a class's objects; first values of its fields; types of its fields; whether a field is final; constructors; types of arrays of ints, bytes, booleans; component types -/
abbrev mv_G : Type := (Nat → Nat → Option (Instr × Nat)) × (Nat → Nat → Option (Nat × Nat)) × (Nat → Nat → Option Nat) × (Nat → Nat → Option Nat) × (Nat → Nat → Option (Nat × Nat × Nat)) × (Nat → Nat → Option Value) × (Nat → Nat) × (Nat → List (Nat × Nat × Nat × Nat)) × (Nat → Nat) × (Nat → List Value) × (Nat → Nat → Option FieldType) × (Nat → Nat → Bool) × (Nat → Nat → Bool) × (Nat → Option FieldType)
def mv_gI (G : mv_G) : Nat → Nat → Option (Instr × Nat) := G.1
def mv_gF (G : mv_G) : Nat → Nat → Option (Nat × Nat) := G.2.1
def mv_gN (G : mv_G) : Nat → Nat → Option Nat := G.2.2.1
def mv_gA (G : mv_G) : Nat → Nat → Option Nat := G.2.2.2.1
def mv_gC (G : mv_G) : Nat → Nat → Option (Nat × Nat × Nat) := G.2.2.2.2.1
def mv_gK (G : mv_G) : Nat → Nat → Option Value := G.2.2.2.2.2.1
def mv_gL (G : mv_G) : Nat → Nat := G.2.2.2.2.2.2.1
def mv_gH (G : mv_G) : Nat → List (Nat × Nat × Nat × Nat) := G.2.2.2.2.2.2.2.1
def mv_gZ (G : mv_G) : Nat → Nat := G.2.2.2.2.2.2.2.2.1
def mv_gD (G : mv_G) : Nat → List Value := G.2.2.2.2.2.2.2.2.2.1
def mv_gT (G : mv_G) : Nat → Nat → Option FieldType := G.2.2.2.2.2.2.2.2.2.2.1
def mv_gP (G : mv_G) : Nat → Nat → Bool := G.2.2.2.2.2.2.2.2.2.2.2.1
def mv_gQ (G : mv_G) : Nat → Nat → Bool := G.2.2.2.2.2.2.2.2.2.2.2.2.1
def mv_gY (G : mv_G) : Nat → Option FieldType := G.2.2.2.2.2.2.2.2.2.2.2.2.2
/-- pointers from here on are constants of text -/
def mv_big : Nat := 1099511627776
def mv_tgt (pc : Nat) (off : Int) : Option Nat := if 0 ≤ (pc : Int) + off then some ((pc : Int) + off).toNat else none
theorem mv_tgt_eq {pc t : Nat} {off : Int} (h : mv_tgt pc off = some t) : (pc : Int) + off = (t : Int) := by
  unfold mv_tgt at h
  split at h
  · cases h
    omega
  · cases h
def mv_find (i : Nat) : List (Nat × Value) → Nat → Option (Nat × Value)
  | [], _ => none
  | q :: r, k => if q.1 = i then some (k, q.2) else mv_find i r (k + 1)
theorem mv_find_at {i : Nat} : ∀ (l : List (Nat × Value)) (k j : Nat) (v : Value), mv_find i l k = some (j, v) → k ≤ j ∧ l[j - k]? = some (i, v)
  | [], _, _, _, h => by cases h
  | q :: r, k, j, v, h => by
    unfold mv_find at h
    split at h
    · rename_i e
      cases h
      exact ⟨Nat.le_refl _, by simp [← e]⟩
    · obtain ⟨h1, h2⟩ := mv_find_at r (k + 1) j v h
      refine ⟨by omega, ?_⟩
      rw [show j - k = (j - (k + 1)) + 1 by omega, List.getElem?_cons_succ]
      exact h2
def mv_keep (i : Nat) (l : List (Nat × Value)) : List (Nat × Value) := l.filter (fun q => !(q.1 == i) && !(q.1 + 1 == i && q.2.category == 2))
def mv_int : Value → Bool
  | .int _ => true
  | _ => false
def mv_rfv : Value → Bool
  | .ref _ => true
  | .null => true
  | _ => false
def mv_one (b : Value → Bool) (v : Value) : Bool := b v
section
variable (G : mv_G) (y pc : Nat) (l : List (Nat × Value)) (st : List Value) (hp : List va_E) (cb sb : Nat)
def mv_load (i len : Nat) (b : Value → Bool) : Option mv_R := match mv_find i l 0 with
  | some (_, v) => if b v = true then some (.inl (pc + len, l, v :: st, hp, cb, sb)) else none
  | none => none
def mv_store (i len : Nat) (b : Value → Bool) : Option mv_R := match st with
  | v :: r => if b v = true ∧ i < mv_gL G y then some (.inl (pc + len, (i, v) :: mv_keep i l, r, hp, cb, sb)) else none
  | [] => none
def mv_inc (i : Nat) (n : Int) (len : Nat) : Option mv_R := match mv_find i l 0 with
  | some (_, .int x) => if i < mv_gL G y then some (.inl (pc + len, (i, .int (x + Int32.ofInt n)) :: mv_keep i l, st, hp, cb, sb)) else none
  | _ => none
def mv_bin (f : Int32 → Int32 → Int32) : Option mv_R := match st with
  | .int b :: .int a :: r => some (.inl (pc + 1, l, .int (f a b) :: r, hp, cb, sb))
  | _ => none
def mv_dvd (f : Int32 → Int32 → Int32) : Option mv_R := match st with
  | .int b :: .int a :: r => if b = 0 then none else some (.inl (pc + 1, l, .int (f a b) :: r, hp, cb, sb))
  | _ => none
def mv_un (f : Int32 → Int32) : Option mv_R := match st with
  | .int a :: r => some (.inl (pc + 1, l, .int (f a) :: r, hp, cb, sb))
  | _ => none
def mv_cond : Jvm.ClassFile.Cond → Int32 → Int32 → Bool
  | .eq, a, b => decide (a = b)
  | .ne, a, b => decide (¬ a = b)
  | .lt, a, b => decide (a < b)
  | .ge, a, b => decide (b ≤ a)
  | .gt, a, b => decide (b < a)
  | .le, a, b => decide (a ≤ b)
def mv_jump (off : Int) (c : Bool) (r : List Value) : Option mv_R := match mv_tgt pc off with
  | some t => some (.inl (if c = true then t else pc + 3, l, r, hp, cb, sb))
  | none => none
def mv_if (c : Jvm.ClassFile.Cond) (off : Int) : Option mv_R := match st with
  | .int a :: r => mv_jump pc l hp cb sb off (mv_cond c a 0) r
  | _ => none
def mv_icmp (c : Jvm.ClassFile.Cond) (off : Int) : Option mv_R := match st with
  | .int b :: .int a :: r => mv_jump pc l hp cb sb off (mv_cond c a b) r
  | _ => none
/-- a reference that is no constant of text, or null -/
def mv_ptr : Value → Option (Option Nat)
  | .null => some none
  | .ref a => if a < mv_big then some (some a) else none
  | _ => none
def mv_acmp (c : ACond) (off : Int) : Option mv_R := match st with
  | b :: a :: r => match mv_ptr a, mv_ptr b with
    | some x, some z => mv_jump pc l hp cb sb off (match c with | .eq => decide (x = z) | .ne => decide (¬ x = z)) r
    | _, _ => none
  | _ => none
def mv_ifn (n : Bool) (off : Int) : Option mv_R := match st with
  | .null :: r => mv_jump pc l hp cb sb off n r
  | .ref _ :: r => mv_jump pc l hp cb sb off (!n) r
  | _ => none
def mv_push (len : Nat) (v : Value) : Option mv_R := some (.inl (pc + len, l, v :: st, hp, cb, sb))
def mv_dup : Option mv_R := match st with
  | v :: r => if v.category = 1 then some (.inl (pc + 1, l, v :: v :: r, hp, cb, sb)) else none
  | _ => none
def mv_pop : Option mv_R := match st with
  | v :: r => if v.category = 1 then some (.inl (pc + 1, l, r, hp, cb, sb)) else none
  | _ => none
def mv_dupx : Option mv_R := match st with
  | v :: w :: r => if v.category = 1 ∧ w.category = 1 then some (.inl (pc + 1, l, v :: w :: v :: r, hp, cb, sb)) else none
  | _ => none
def mv_dup2 : Option mv_R := match st with
  | v :: w :: r => if v.category = 1 ∧ w.category = 1 then some (.inl (pc + 1, l, v :: w :: v :: w :: r, hp, cb, sb)) else none
  | _ => none
def mv_tsw (dflt lo hi : Int) (offs : Array Int) : Option mv_R := match st with
  | .int x :: r => if x.toInt < lo ∨ hi < x.toInt then match mv_tgt pc dflt with
      | some t => some (.inl (t, l, r, hp, cb, sb))
      | none => none
    else match offs[(x.toInt - lo).toNat]? with
      | some off => match mv_tgt pc off with
        | some t => some (.inl (t, l, r, hp, cb, sb))
        | none => none
      | none => none
  | _ => none
def mv_lsw (dflt : Int) (ps : Array (Int × Int)) : Option mv_R := match st with
  | .int x :: r => if (ps.toList.zip (ps.toList.drop 1)).all (fun (a, next) => a.1 < next.1) = true then match mv_tgt pc (Op.lookupswitch.offset ps.toList dflt x.toInt) with
      | some t => some (.inl (t, l, r, hp, cb, sb))
      | none => none
    else none
  | _ => none
end
def mv_f_iadd (a b : Int32) : Int32 := a + b
def mv_f_isub (a b : Int32) : Int32 := a - b
def mv_f_imul (a b : Int32) : Int32 := a * b
def mv_f_iand (a b : Int32) : Int32 := a &&& b
def mv_f_ior (a b : Int32) : Int32 := a ||| b
def mv_f_ixor (a b : Int32) : Int32 := a ^^^ b
def mv_f_ishl (a b : Int32) : Int32 := a <<< (b &&& 31)
def mv_f_ishr (a b : Int32) : Int32 := a >>> (b &&& 31)
def mv_f_iushr (a b : Int32) : Int32 := (a.toUInt32 >>> (b.toUInt32 &&& Int32.toUInt32 31)).toInt32
def mv_f_idiv (a b : Int32) : Int32 := a / b
def mv_f_irem (a b : Int32) : Int32 := a - a / b * b
def mv_f_ineg (a : Int32) : Int32 := -a
def mv_f_i2b (a : Int32) : Int32 := a.toInt8.toInt32
def mv_f_i2c (a : Int32) : Int32 := (a.toUInt32 % 65536).toInt32
end
section
/-! rows of the small machine over the real one: what it holds there, and the instructions that leave the heap alone -/
def mv_ad (base : Nat) (kt : Nat → Nat) (a : Nat) : Nat := if a < mv_big then base + a else kt (a - mv_big)
def mv_v (ad : Nat → Nat) : Value → Value
  | .ref a => .ref (ad a)
  | v => v
def mv_l (ad : Nat → Nat) (l : List (Nat × Value)) : List (Nat × Value) := l.map (fun q => (q.1, mv_v ad q.2))
def mv_e (ad dA : Nat → Nat) : va_E → va_E
  | .inl (t, n, .inl f) => .inl (dA t, n, .inl f)
  | .inl (t, n, .inr (.inl f)) => .inl (dA t, n, .inr (.inl f))
  | .inl (t, n, .inr (.inr (.inl f))) => .inl (dA t, n, .inr (.inr (.inl f)))
  | .inl (t, n, .inr (.inr (.inr (.inl f)))) => .inl (dA t, n, .inr (.inr (.inr (.inl f))))
  | .inl (t, n, .inr (.inr (.inr (.inr g)))) => .inl (dA t, n, .inr (.inr (.inr (.inr (fun i => (g i).map ad)))))
  | .inr (c, fs) => .inr (c, fs.map (mv_v ad))
def mv_w (ad dA : Nat → Nat) : Nat → List va_E → va_W
  | _, [] => []
  | k, e :: r => (ad k, mv_e ad dA e) :: mv_w ad dA (k + 1) r
theorem mv_v_cat (ad : Nat → Nat) (v : Value) : (mv_v ad v).category = v.category := by cases v <;> rfl
theorem mv_keep_l (ad : Nat → Nat) (i : Nat) : ∀ l : List (Nat × Value), mv_l ad (mv_keep i l) = mv_keep i (mv_l ad l)
  | [] => rfl
  | q :: r => by
    have ih := mv_keep_l ad i r
    unfold mv_l mv_keep at ih ⊢
    rw [List.filter_cons, List.map_cons, List.filter_cons]
    simp only [mv_v_cat]
    split
    · rw [List.map_cons, ih]
    · exact ih
theorem mv_l_at {ad : Nat → Nat} {l : List (Nat × Value)} {k i : Nat} {v : Value} (h : l[k]? = some (i, v)) : (mv_l ad l)[k]? = some (i, mv_v ad v) := by
  unfold mv_l
  rw [List.getElem?_map, h]
  rfl
theorem mv_w_at {ad dA : Nat → Nat} : ∀ (hp : List va_E) (n k : Nat) (e : va_E), hp[k]? = some e → (mv_w ad dA n hp)[k]? = some (ad (n + k), mv_e ad dA e)
  | [], _, _, _, h => by simp at h
  | _ :: _, n, 0, _, h => by
    cases h
    rfl
  | _ :: r, n, k + 1, e, h => by
    have := mv_w_at (ad := ad) (dA := dA) r (n + 1) k e h
    rw [show n + (k + 1) = n + 1 + k by omega]
    exact this
theorem mv_w_len (ad dA : Nat → Nat) : ∀ (hp : List va_E) (n : Nat), (mv_w ad dA n hp).length = hp.length
  | [], _ => rfl
  | _ :: r, n => congrArg (· + 1) (mv_w_len ad dA r (n + 1))
theorem mv_w_of {ad dA : Nat → Nat} {hp : List va_E} {n k : Nat} {q : Nat × va_E} (h : (mv_w ad dA n hp)[k]? = some q) : ∃ e, hp[k]? = some e ∧ q = (ad (n + k), mv_e ad dA e) := by
  have hk : k < hp.length := by
    rw [← mv_w_len ad dA hp n]
    exact (List.getElem?_eq_some_iff.mp h).1
  have h1 : hp[k]? = some hp[k] := List.getElem?_eq_getElem hk
  refine ⟨_, h1, ?_⟩
  rw [mv_w_at hp n k _ h1] at h
  exact (Option.some.inj h).symm
theorem mv_w_set {ad dA : Nat → Nat} : ∀ (hp : List va_E) (n k : Nat) (e : va_E), (mv_w ad dA n hp).set k (ad (n + k), mv_e ad dA e) = mv_w ad dA n (hp.set k e)
  | [], _, _, _ => rfl
  | _ :: _, n, 0, _ => rfl
  | _ :: r, n, k + 1, e => by
    have := mv_w_set (ad := ad) (dA := dA) r (n + 1) k e
    rw [show n + (k + 1) = n + 1 + k by omega]
    exact congrArg (List.cons _) this
theorem mv_w_app {ad dA : Nat → Nat} : ∀ (hp : List va_E) (n : Nat) (r : List va_E), mv_w ad dA n (hp ++ r) = mv_w ad dA n hp ++ mv_w ad dA (n + hp.length) r
  | [], _, _ => rfl
  | _ :: q, n, r => by
    have := mv_w_app (ad := ad) (dA := dA) q (n + 1) r
    rw [List.length_cons, show n + (q.length + 1) = n + 1 + q.length by omega]
    exact congrArg (List.cons _) this
/-- what holds where the small machine stands at S: base: the address of its pointer 0 -/
def mv_inv (base : Nat) (ad dA : Nat → Nat) (D : va_G) (cl : List vw_C) (nL : Nat) (R : Room) (s : State) (S : mv_S) (H : Heap) (ls : Array Slot) (locs : List Loc) (cells slots : Nat) : Prop :=
  lv_has ls nL (mv_l ad S.2.1) ∧ va_P D cl (mv_w ad dA 0 S.2.2.2.1) H ∧ H.size = base + S.2.2.2.1.length ∧ va_S (fun q => base ≤ q) s.heap H locs ∧ cells + S.2.2.2.2.1 ≤ R.cells ∧ slots + S.2.2.2.2.2 ≤ R.slots ∧ S.2.2.2.1.length + S.2.2.2.2.1 ≤ mv_big
/-- the real machine goes on well from every place at which the small one stands at S -/
def mv_K (base : Nat) (ad dA : Nat → Nat) (D : va_G) (cl : List vw_C) (nL : Nat) (p : Program) (l : Launch) (e : Env) (R : Room) (s : State) (m : MethodId) (args : Array Value) (below : List Frame) (meth : Method) (c : Code) (Q : State → Prop) (S : mv_S) : Prop :=
  ∀ (H : Heap) (ls : Array Slot) (locs : List Loc) (cells slots : Nat), mv_inv base ad dA D cl nL R s S H ls locs cells slots → W p l e R s m args below meth c H locs cells slots Q (F0 m S.1 ls (S.2.2.1.map (mv_v ad)))
theorem mv_inv_st {base : Nat} {ad dA : Nat → Nat} {D : va_G} {cl : List vw_C} {nL : Nat} {R : Room} {s : State} {pc pc' i cb sb : Nat} {lo : List (Nat × Value)} {st st' : List Value} {hp : List va_E} {H : Heap} {ls ls' : Array Slot} {locs : List Loc} {cells slots : Nat} {v w : Value} (hl : lv_has ls' nL ((i, w) :: mv_keep i (mv_l ad lo))) (I : mv_inv base ad dA D cl nL R s (pc, lo, st, hp, cb, sb) H ls locs cells slots) (hw : w = mv_v ad v := by rfl) : mv_inv base ad dA D cl nL R s (pc', (i, v) :: mv_keep i lo, st', hp, cb, sb) H ls' locs cells slots := by
  refine ⟨?_, I.2⟩
  show lv_has ls' nL ((i, mv_v ad v) :: mv_l ad (mv_keep i lo))
  rw [mv_keep_l, ← hw]
  exact hl
section MVR
variable {base : Nat} {ad dA : Nat → Nat} {D : va_G} {cl : List vw_C} {nL : Nat} {p : Program} {l : Launch} {e : Env} {R : Room} {s : State} {m : MethodId} {args : Array Value} {below : List Frame} {meth : Method} {c : Code} {Q : State → Prop} {cc : ByteArray} {G : mv_G} {y pc : Nat} {lo : List (Nat × Value)} {st : List Value} {hp : List va_E} {cb sb : Nat} {S : mv_S}
theorem mr_iload (hx : p.tables.exec = Jvm.exec) (hb : c.code = cc) {i : Nat} (hdg : decode cc pc = .ok (.iload i, 2)) (h : mv_load pc lo st hp cb sb i 2 mv_int = some (.inl S)) (k : mv_K base ad dA D cl nL p l e R s m args below meth c Q S) : mv_K base ad dA D cl nL p l e R s m args below meth c Q (pc, lo, st, hp, cb, sb) := by
  intro H ls locs cells slots I
  unfold mv_load at h
  split at h
  · rename_i j v hf
    split at h
    · rename_i hv
      cases h
      cases v <;> simp [mv_int] at hv
      obtain ⟨-, h2⟩ := mv_find_at _ _ _ _ hf
      exact lv_iload hx hb hdg (lv_at I.1 _ (mv_l_at h2)) (k H ls locs cells slots I)
    · cases h
  · cases h
theorem mr_iload_n (hx : p.tables.exec = Jvm.exec) (hb : c.code = cc) {i : Fin 4} (hdg : decode cc pc = .ok (.iload_n i, 1)) (h : mv_load pc lo st hp cb sb i 1 mv_int = some (.inl S)) (k : mv_K base ad dA D cl nL p l e R s m args below meth c Q S) : mv_K base ad dA D cl nL p l e R s m args below meth c Q (pc, lo, st, hp, cb, sb) := by
  intro H ls locs cells slots I
  unfold mv_load at h
  split at h
  · rename_i j v hf
    split at h
    · rename_i hv
      cases h
      cases v <;> simp [mv_int] at hv
      obtain ⟨-, h2⟩ := mv_find_at _ _ _ _ hf
      exact lv_iload_n hx hb hdg rfl (lv_at I.1 _ (mv_l_at h2)) (k H ls locs cells slots I)
    · cases h
  · cases h
theorem mr_aload (hx : p.tables.exec = Jvm.exec) (hb : c.code = cc) {i : Nat} (hdg : decode cc pc = .ok (.aload i, 2)) (h : mv_load pc lo st hp cb sb i 2 mv_rfv = some (.inl S)) (k : mv_K base ad dA D cl nL p l e R s m args below meth c Q S) : mv_K base ad dA D cl nL p l e R s m args below meth c Q (pc, lo, st, hp, cb, sb) := by
  intro H ls locs cells slots I
  unfold mv_load at h
  split at h
  · rename_i j v hf
    split at h
    · rename_i hv
      cases h
      obtain ⟨-, h2⟩ := mv_find_at _ _ _ _ hf
      cases v <;> simp [mv_rfv] at hv
      · exact lv_aloadN hx hb hdg (lv_at I.1 _ (mv_l_at h2)) (k H ls locs cells slots I)
      · exact lv_aload hx hb hdg (lv_at I.1 _ (mv_l_at h2)) (k H ls locs cells slots I)
    · cases h
  · cases h
theorem mr_aload_n (hx : p.tables.exec = Jvm.exec) (hb : c.code = cc) {i : Fin 4} (hdg : decode cc pc = .ok (.aload_n i, 1)) (h : mv_load pc lo st hp cb sb i 1 mv_rfv = some (.inl S)) (k : mv_K base ad dA D cl nL p l e R s m args below meth c Q S) : mv_K base ad dA D cl nL p l e R s m args below meth c Q (pc, lo, st, hp, cb, sb) := by
  intro H ls locs cells slots I
  unfold mv_load at h
  split at h
  · rename_i j v hf
    split at h
    · rename_i hv
      cases h
      obtain ⟨-, h2⟩ := mv_find_at _ _ _ _ hf
      cases v <;> simp [mv_rfv] at hv
      · exact lv_aload_nN hx hb hdg rfl (lv_at I.1 _ (mv_l_at h2)) (k H ls locs cells slots I)
      · exact lv_aload_n hx hb hdg rfl (lv_at I.1 _ (mv_l_at h2)) (k H ls locs cells slots I)
    · cases h
  · cases h
theorem mr_istore (hx : p.tables.exec = Jvm.exec) (hb : c.code = cc) (hn : mv_gL G y = nL) {i : Nat} (hdg : decode cc pc = .ok (.istore i, 2)) (h : mv_store G y pc lo st hp cb sb i 2 mv_int = some (.inl S)) (k : mv_K base ad dA D cl nL p l e R s m args below meth c Q S) : mv_K base ad dA D cl nL p l e R s m args below meth c Q (pc, lo, st, hp, cb, sb) := by
  intro H ls locs cells slots I
  unfold mv_store at h
  split at h
  · rename_i v r
    split at h
    · rename_i hv
      cases h
      cases v <;> simp [mv_int] at hv
      exact lv_istore hx hb hdg I.1 (by omega) rfl (fun ls' hl' => k H ls' locs cells slots (mv_inv_st hl' I))
    · cases h
  · cases h
theorem mr_istore_n (hx : p.tables.exec = Jvm.exec) (hb : c.code = cc) (hn : mv_gL G y = nL) {i : Fin 4} (hdg : decode cc pc = .ok (.istore_n i, 1)) (h : mv_store G y pc lo st hp cb sb i 1 mv_int = some (.inl S)) (k : mv_K base ad dA D cl nL p l e R s m args below meth c Q S) : mv_K base ad dA D cl nL p l e R s m args below meth c Q (pc, lo, st, hp, cb, sb) := by
  intro H ls locs cells slots I
  unfold mv_store at h
  split at h
  · rename_i v r
    split at h
    · rename_i hv
      cases h
      cases v <;> simp [mv_int] at hv
      exact lv_istore_n hx hb hdg rfl I.1 (by omega) rfl (fun ls' hl' => k H ls' locs cells slots (mv_inv_st hl' I))
    · cases h
  · cases h
theorem mr_astore (hx : p.tables.exec = Jvm.exec) (hb : c.code = cc) (hn : mv_gL G y = nL) {i : Nat} (hdg : decode cc pc = .ok (.astore i, 2)) (h : mv_store G y pc lo st hp cb sb i 2 mv_rfv = some (.inl S)) (k : mv_K base ad dA D cl nL p l e R s m args below meth c Q S) : mv_K base ad dA D cl nL p l e R s m args below meth c Q (pc, lo, st, hp, cb, sb) := by
  intro H ls locs cells slots I
  unfold mv_store at h
  split at h
  · rename_i v r
    split at h
    · rename_i hv
      cases h
      cases v <;> simp [mv_rfv] at hv
      · exact lv_astoreN hx hb hdg I.1 (by omega) rfl (fun ls' hl' => k H ls' locs cells slots (mv_inv_st hl' I))
      · exact lv_astore hx hb hdg I.1 (by omega) rfl (fun ls' hl' => k H ls' locs cells slots (mv_inv_st hl' I))
    · cases h
  · cases h
theorem mr_astore_n (hx : p.tables.exec = Jvm.exec) (hb : c.code = cc) (hn : mv_gL G y = nL) {i : Fin 4} (hdg : decode cc pc = .ok (.astore_n i, 1)) (h : mv_store G y pc lo st hp cb sb i 1 mv_rfv = some (.inl S)) (k : mv_K base ad dA D cl nL p l e R s m args below meth c Q S) : mv_K base ad dA D cl nL p l e R s m args below meth c Q (pc, lo, st, hp, cb, sb) := by
  intro H ls locs cells slots I
  unfold mv_store at h
  split at h
  · rename_i v r
    split at h
    · rename_i hv
      cases h
      cases v <;> simp [mv_rfv] at hv
      · exact lv_astore_nN hx hb hdg rfl I.1 (by omega) rfl (fun ls' hl' => k H ls' locs cells slots (mv_inv_st hl' I))
      · exact lv_astore_n hx hb hdg rfl I.1 (by omega) rfl (fun ls' hl' => k H ls' locs cells slots (mv_inv_st hl' I))
    · cases h
  · cases h
theorem mr_inc (hx : p.tables.exec = Jvm.exec) (hb : c.code = cc) (hn : mv_gL G y = nL) {i : Nat} {n : Int} (hdg : decode cc pc = .ok (.iinc i n, 3)) (h : mv_inc G y pc lo st hp cb sb i n 3 = some (.inl S)) (k : mv_K base ad dA D cl nL p l e R s m args below meth c Q S) : mv_K base ad dA D cl nL p l e R s m args below meth c Q (pc, lo, st, hp, cb, sb) := by
  intro H ls locs cells slots I
  unfold mv_inc at h
  split at h
  · rename_i j x hf
    split at h
    · rename_i hv
      cases h
      obtain ⟨-, h2⟩ := mv_find_at _ _ _ _ hf
      exact lv_iinc hx hb hdg I.1 (mv_l_at h2) rfl (by omega) rfl (fun ls' hl' => k H ls' locs cells slots (mv_inv_st hl' I))
    · cases h
  · cases h
theorem mr_incW (hx : p.tables.exec = Jvm.exec) (hb : c.code = cc) (hn : mv_gL G y = nL) {i : Nat} {n : Int} (hdg : decode cc pc = .ok (.iinc i n, 6)) (h : mv_inc G y pc lo st hp cb sb i n 6 = some (.inl S)) (k : mv_K base ad dA D cl nL p l e R s m args below meth c Q S) : mv_K base ad dA D cl nL p l e R s m args below meth c Q (pc, lo, st, hp, cb, sb) := by
  intro H ls locs cells slots I
  unfold mv_inc at h
  split at h
  · rename_i j x hf
    split at h
    · rename_i hv
      cases h
      obtain ⟨-, h2⟩ := mv_find_at _ _ _ _ hf
      exact lv_iincW hx hb hdg I.1 (mv_l_at h2) rfl (by omega) rfl (fun ls' hl' => k H ls' locs cells slots (mv_inv_st hl' I))
    · cases h
  · cases h
end MVR
end
section
/-! rows of the small machine: numbers, the stack, jumps -/
section MVN
variable {base : Nat} {ad dA : Nat → Nat} {D : va_G} {cl : List vw_C} {nL : Nat} {p : Program} {l : Launch} {e : Env} {R : Room} {s : State} {m : MethodId} {args : Array Value} {below : List Frame} {meth : Method} {c : Code} {Q : State → Prop} {cc : ByteArray} {G : mv_G} {y pc : Nat} {lo : List (Nat × Value)} {st : List Value} {hp : List va_E} {cb sb : Nat} {S : mv_S}
theorem mr_iadd (hx : p.tables.exec = Jvm.exec) (hb : c.code = cc) (hdg : decode cc pc = .ok (.iadd, 1)) (h : mv_bin pc lo st hp cb sb mv_f_iadd = some (.inl S)) (k : mv_K base ad dA D cl nL p l e R s m args below meth c Q S) : mv_K base ad dA D cl nL p l e R s m args below meth c Q (pc, lo, st, hp, cb, sb) := by
  intro H ls locs cells slots I
  unfold mv_bin at h
  split at h
  · cases h
    exact lv_iadd hx hb hdg (k H ls locs cells slots I)
  · cases h
theorem mr_isub (hx : p.tables.exec = Jvm.exec) (hb : c.code = cc) (hdg : decode cc pc = .ok (.isub, 1)) (h : mv_bin pc lo st hp cb sb mv_f_isub = some (.inl S)) (k : mv_K base ad dA D cl nL p l e R s m args below meth c Q S) : mv_K base ad dA D cl nL p l e R s m args below meth c Q (pc, lo, st, hp, cb, sb) := by
  intro H ls locs cells slots I
  unfold mv_bin at h
  split at h
  · cases h
    exact lv_isub hx hb hdg (k H ls locs cells slots I)
  · cases h
theorem mr_imul (hx : p.tables.exec = Jvm.exec) (hb : c.code = cc) (hdg : decode cc pc = .ok (.imul, 1)) (h : mv_bin pc lo st hp cb sb mv_f_imul = some (.inl S)) (k : mv_K base ad dA D cl nL p l e R s m args below meth c Q S) : mv_K base ad dA D cl nL p l e R s m args below meth c Q (pc, lo, st, hp, cb, sb) := by
  intro H ls locs cells slots I
  unfold mv_bin at h
  split at h
  · cases h
    exact lv_imul hx hb hdg (k H ls locs cells slots I)
  · cases h
theorem mr_iand (hx : p.tables.exec = Jvm.exec) (hb : c.code = cc) (hdg : decode cc pc = .ok (.iand, 1)) (h : mv_bin pc lo st hp cb sb mv_f_iand = some (.inl S)) (k : mv_K base ad dA D cl nL p l e R s m args below meth c Q S) : mv_K base ad dA D cl nL p l e R s m args below meth c Q (pc, lo, st, hp, cb, sb) := by
  intro H ls locs cells slots I
  unfold mv_bin at h
  split at h
  · cases h
    exact lv_iand hx hb hdg (k H ls locs cells slots I)
  · cases h
theorem mr_ior (hx : p.tables.exec = Jvm.exec) (hb : c.code = cc) (hdg : decode cc pc = .ok (.ior, 1)) (h : mv_bin pc lo st hp cb sb mv_f_ior = some (.inl S)) (k : mv_K base ad dA D cl nL p l e R s m args below meth c Q S) : mv_K base ad dA D cl nL p l e R s m args below meth c Q (pc, lo, st, hp, cb, sb) := by
  intro H ls locs cells slots I
  unfold mv_bin at h
  split at h
  · cases h
    exact lv_ior hx hb hdg (k H ls locs cells slots I)
  · cases h
theorem mr_ixor (hx : p.tables.exec = Jvm.exec) (hb : c.code = cc) (hdg : decode cc pc = .ok (.ixor, 1)) (h : mv_bin pc lo st hp cb sb mv_f_ixor = some (.inl S)) (k : mv_K base ad dA D cl nL p l e R s m args below meth c Q S) : mv_K base ad dA D cl nL p l e R s m args below meth c Q (pc, lo, st, hp, cb, sb) := by
  intro H ls locs cells slots I
  unfold mv_bin at h
  split at h
  · cases h
    exact lv_ixor hx hb hdg (k H ls locs cells slots I)
  · cases h
theorem mr_ishl (hx : p.tables.exec = Jvm.exec) (hb : c.code = cc) (hdg : decode cc pc = .ok (.ishl, 1)) (h : mv_bin pc lo st hp cb sb mv_f_ishl = some (.inl S)) (k : mv_K base ad dA D cl nL p l e R s m args below meth c Q S) : mv_K base ad dA D cl nL p l e R s m args below meth c Q (pc, lo, st, hp, cb, sb) := by
  intro H ls locs cells slots I
  unfold mv_bin at h
  split at h
  · cases h
    exact lv_ishl hx hb hdg (k H ls locs cells slots I)
  · cases h
theorem mr_ishr (hx : p.tables.exec = Jvm.exec) (hb : c.code = cc) (hdg : decode cc pc = .ok (.ishr, 1)) (h : mv_bin pc lo st hp cb sb mv_f_ishr = some (.inl S)) (k : mv_K base ad dA D cl nL p l e R s m args below meth c Q S) : mv_K base ad dA D cl nL p l e R s m args below meth c Q (pc, lo, st, hp, cb, sb) := by
  intro H ls locs cells slots I
  unfold mv_bin at h
  split at h
  · cases h
    exact lv_ishr hx hb hdg (k H ls locs cells slots I)
  · cases h
theorem mr_iushr (hx : p.tables.exec = Jvm.exec) (hb : c.code = cc) (hdg : decode cc pc = .ok (.iushr, 1)) (h : mv_bin pc lo st hp cb sb mv_f_iushr = some (.inl S)) (k : mv_K base ad dA D cl nL p l e R s m args below meth c Q S) : mv_K base ad dA D cl nL p l e R s m args below meth c Q (pc, lo, st, hp, cb, sb) := by
  intro H ls locs cells slots I
  unfold mv_bin at h
  split at h
  · cases h
    exact lv_iushr hx hb hdg rfl (k H ls locs cells slots I)
  · cases h
theorem mr_idiv (hx : p.tables.exec = Jvm.exec) (hb : c.code = cc) (hdg : decode cc pc = .ok (.idiv, 1)) (h : mv_dvd pc lo st hp cb sb mv_f_idiv = some (.inl S)) (k : mv_K base ad dA D cl nL p l e R s m args below meth c Q S) : mv_K base ad dA D cl nL p l e R s m args below meth c Q (pc, lo, st, hp, cb, sb) := by
  intro H ls locs cells slots I
  unfold mv_dvd at h
  split at h
  · split at h
    · cases h
    · rename_i hne
      cases h
      exact lv_idiv hx hb hdg hne (k H ls locs cells slots I)
  · cases h
theorem mr_irem (hx : p.tables.exec = Jvm.exec) (hb : c.code = cc) (hdg : decode cc pc = .ok (.irem, 1)) (h : mv_dvd pc lo st hp cb sb mv_f_irem = some (.inl S)) (k : mv_K base ad dA D cl nL p l e R s m args below meth c Q S) : mv_K base ad dA D cl nL p l e R s m args below meth c Q (pc, lo, st, hp, cb, sb) := by
  intro H ls locs cells slots I
  unfold mv_dvd at h
  split at h
  · split at h
    · cases h
    · rename_i hne
      cases h
      exact lv_irem hx hb hdg hne (k H ls locs cells slots I)
  · cases h
theorem mr_ineg (hx : p.tables.exec = Jvm.exec) (hb : c.code = cc) (hdg : decode cc pc = .ok (.ineg, 1)) (h : mv_un pc lo st hp cb sb mv_f_ineg = some (.inl S)) (k : mv_K base ad dA D cl nL p l e R s m args below meth c Q S) : mv_K base ad dA D cl nL p l e R s m args below meth c Q (pc, lo, st, hp, cb, sb) := by
  intro H ls locs cells slots I
  unfold mv_un at h
  split at h
  · cases h
    exact lv_ineg hx hb hdg (k H ls locs cells slots I)
  · cases h
theorem mr_i2b (hx : p.tables.exec = Jvm.exec) (hb : c.code = cc) (hdg : decode cc pc = .ok (.i2b, 1)) (h : mv_un pc lo st hp cb sb mv_f_i2b = some (.inl S)) (k : mv_K base ad dA D cl nL p l e R s m args below meth c Q S) : mv_K base ad dA D cl nL p l e R s m args below meth c Q (pc, lo, st, hp, cb, sb) := by
  intro H ls locs cells slots I
  unfold mv_un at h
  split at h
  · cases h
    exact lv_i2b hx hb hdg rfl (k H ls locs cells slots I)
  · cases h
theorem mr_i2c (hx : p.tables.exec = Jvm.exec) (hb : c.code = cc) (hdg : decode cc pc = .ok (.i2c, 1)) (h : mv_un pc lo st hp cb sb mv_f_i2c = some (.inl S)) (k : mv_K base ad dA D cl nL p l e R s m args below meth c Q S) : mv_K base ad dA D cl nL p l e R s m args below meth c Q (pc, lo, st, hp, cb, sb) := by
  intro H ls locs cells slots I
  unfold mv_un at h
  split at h
  · cases h
    exact lv_i2c hx hb hdg rfl (k H ls locs cells slots I)
  · cases h
theorem mr_iconst (hx : p.tables.exec = Jvm.exec) (hb : c.code = cc) {n : Int} (hdg : decode cc pc = .ok (.iconst n, 1)) (h : mv_push pc lo st hp cb sb 1 (.int (Int32.ofInt n)) = some (.inl S)) (k : mv_K base ad dA D cl nL p l e R s m args below meth c Q S) : mv_K base ad dA D cl nL p l e R s m args below meth c Q (pc, lo, st, hp, cb, sb) := by
  intro H ls locs cells slots I
  cases h
  exact lv_iconst hx hb hdg rfl (k H ls locs cells slots I)
theorem mr_bipush (hx : p.tables.exec = Jvm.exec) (hb : c.code = cc) {n : Int} (hdg : decode cc pc = .ok (.bipush n, 2)) (h : mv_push pc lo st hp cb sb 2 (.int ((Int8.ofInt n).toInt32)) = some (.inl S)) (k : mv_K base ad dA D cl nL p l e R s m args below meth c Q S) : mv_K base ad dA D cl nL p l e R s m args below meth c Q (pc, lo, st, hp, cb, sb) := by
  intro H ls locs cells slots I
  cases h
  exact lv_bipush hx hb hdg rfl (k H ls locs cells slots I)
theorem mr_sipush (hx : p.tables.exec = Jvm.exec) (hb : c.code = cc) {n : Int} (hdg : decode cc pc = .ok (.sipush n, 3)) (h : mv_push pc lo st hp cb sb 3 (.int ((Int16.ofInt n).toInt32)) = some (.inl S)) (k : mv_K base ad dA D cl nL p l e R s m args below meth c Q S) : mv_K base ad dA D cl nL p l e R s m args below meth c Q (pc, lo, st, hp, cb, sb) := by
  intro H ls locs cells slots I
  cases h
  exact lv_sipush hx hb hdg rfl (k H ls locs cells slots I)
theorem mr_null (hx : p.tables.exec = Jvm.exec) (hb : c.code = cc) (hdg : decode cc pc = .ok (.aconst_null, 1)) (h : mv_push pc lo st hp cb sb 1 .null = some (.inl S)) (k : mv_K base ad dA D cl nL p l e R s m args below meth c Q S) : mv_K base ad dA D cl nL p l e R s m args below meth c Q (pc, lo, st, hp, cb, sb) := by
  intro H ls locs cells slots I
  cases h
  exact lv_null hx hb hdg (k H ls locs cells slots I)
theorem mr_dup (hx : p.tables.exec = Jvm.exec) (hb : c.code = cc) (hdg : decode cc pc = .ok (.dup, 1)) (h : mv_dup pc lo st hp cb sb = some (.inl S)) (k : mv_K base ad dA D cl nL p l e R s m args below meth c Q S) : mv_K base ad dA D cl nL p l e R s m args below meth c Q (pc, lo, st, hp, cb, sb) := by
  intro H ls locs cells slots I
  unfold mv_dup at h
  split at h
  · split at h
    · rename_i hv
      cases h
      exact lv_dup hx hb hdg (by rw [mv_v_cat]; exact hv) (k H ls locs cells slots I)
    · cases h
  · cases h
theorem mr_pop (hx : p.tables.exec = Jvm.exec) (hb : c.code = cc) (hdg : decode cc pc = .ok (.pop, 1)) (h : mv_pop pc lo st hp cb sb = some (.inl S)) (k : mv_K base ad dA D cl nL p l e R s m args below meth c Q S) : mv_K base ad dA D cl nL p l e R s m args below meth c Q (pc, lo, st, hp, cb, sb) := by
  intro H ls locs cells slots I
  unfold mv_pop at h
  split at h
  · split at h
    · rename_i hv
      cases h
      exact lv_pop hx hb hdg (by rw [mv_v_cat]; exact hv) (k H ls locs cells slots I)
    · cases h
  · cases h
theorem mr_dup_x1 (hx : p.tables.exec = Jvm.exec) (hb : c.code = cc) (hdg : decode cc pc = .ok (.dup_x1, 1)) (h : mv_dupx pc lo st hp cb sb = some (.inl S)) (k : mv_K base ad dA D cl nL p l e R s m args below meth c Q S) : mv_K base ad dA D cl nL p l e R s m args below meth c Q (pc, lo, st, hp, cb, sb) := by
  intro H ls locs cells slots I
  unfold mv_dupx at h
  split at h
  · split at h
    · rename_i hv
      cases h
      exact lv_dup_x1 hx hb hdg (by rw [mv_v_cat]; exact hv.1) (by rw [mv_v_cat]; exact hv.2) (k H ls locs cells slots I)
    · cases h
  · cases h
theorem mr_dup2 (hx : p.tables.exec = Jvm.exec) (hb : c.code = cc) (hdg : decode cc pc = .ok (.dup2, 1)) (h : mv_dup2 pc lo st hp cb sb = some (.inl S)) (k : mv_K base ad dA D cl nL p l e R s m args below meth c Q S) : mv_K base ad dA D cl nL p l e R s m args below meth c Q (pc, lo, st, hp, cb, sb) := by
  intro H ls locs cells slots I
  unfold mv_dup2 at h
  split at h
  · split at h
    · rename_i hv
      cases h
      exact lv_dup2_11 hx hb hdg (by rw [mv_v_cat]; exact hv.1) (by rw [mv_v_cat]; exact hv.2) (k H ls locs cells slots I)
    · cases h
  · cases h
theorem mv_jump_s {off : Int} {r : List Value} {b : Bool} (h : mv_jump pc lo hp cb sb off b r = some (.inl S)) : ∃ t : Nat, (pc : Int) + off = (t : Int) ∧ (b = true → S = (t, lo, r, hp, cb, sb)) ∧ (b = false → S = (pc + 3, lo, r, hp, cb, sb)) := by
  unfold mv_jump at h
  split at h
  · rename_i t ht
    cases h
    exact ⟨t, mv_tgt_eq ht, fun e => by rw [e]; rfl, fun e => by rw [e]; rfl⟩
  · cases h
theorem mr_goto (hx : p.tables.exec = Jvm.exec) (hb : c.code = cc) {off : Int} (hdg : decode cc pc = .ok (.goto off, 3)) (h : mv_jump pc lo hp cb sb off true st = some (.inl S)) (k : mv_K base ad dA D cl nL p l e R s m args below meth c Q S) : mv_K base ad dA D cl nL p l e R s m args below meth c Q (pc, lo, st, hp, cb, sb) := by
  intro H ls locs cells slots I
  obtain ⟨t, ht, h1, -⟩ := mv_jump_s h
  obtain rfl := h1 rfl
  exact lv_goto hx hb hdg ht (k H ls locs cells slots I)
theorem mr_if_eq (hx : p.tables.exec = Jvm.exec) (hb : c.code = cc) {off : Int} (hdg : decode cc pc = .ok (.ifCond .eq off, 3)) (h : mv_if pc lo st hp cb sb .eq off = some (.inl S)) (k : mv_K base ad dA D cl nL p l e R s m args below meth c Q S) : mv_K base ad dA D cl nL p l e R s m args below meth c Q (pc, lo, st, hp, cb, sb) := by
  intro H ls locs cells slots I
  unfold mv_if at h
  split at h
  · rename_i a r
    obtain ⟨t, ht, h1, h2⟩ := mv_jump_s h
    exact lv_if_eq hx hb hdg ht (fun hP => by obtain rfl := h1 (by simp [mv_cond, hP]); exact k H ls locs cells slots I) (fun hP => by obtain rfl := h2 (by simp [mv_cond, hP]); exact k H ls locs cells slots I)
  · cases h
theorem mr_icmp_eq (hx : p.tables.exec = Jvm.exec) (hb : c.code = cc) {off : Int} (hdg : decode cc pc = .ok (.if_icmp .eq off, 3)) (h : mv_icmp pc lo st hp cb sb .eq off = some (.inl S)) (k : mv_K base ad dA D cl nL p l e R s m args below meth c Q S) : mv_K base ad dA D cl nL p l e R s m args below meth c Q (pc, lo, st, hp, cb, sb) := by
  intro H ls locs cells slots I
  unfold mv_icmp at h
  split at h
  · rename_i b a r
    obtain ⟨t, ht, h1, h2⟩ := mv_jump_s h
    exact lv_icmp_eq hx hb hdg ht (fun hP => by obtain rfl := h1 (by simp [mv_cond, hP]); exact k H ls locs cells slots I) (fun hP => by obtain rfl := h2 (by simp [mv_cond, hP]); exact k H ls locs cells slots I)
  · cases h
theorem mr_if_ne (hx : p.tables.exec = Jvm.exec) (hb : c.code = cc) {off : Int} (hdg : decode cc pc = .ok (.ifCond .ne off, 3)) (h : mv_if pc lo st hp cb sb .ne off = some (.inl S)) (k : mv_K base ad dA D cl nL p l e R s m args below meth c Q S) : mv_K base ad dA D cl nL p l e R s m args below meth c Q (pc, lo, st, hp, cb, sb) := by
  intro H ls locs cells slots I
  unfold mv_if at h
  split at h
  · rename_i a r
    obtain ⟨t, ht, h1, h2⟩ := mv_jump_s h
    exact lv_if_ne hx hb hdg ht (fun hP => by obtain rfl := h1 (by simp [mv_cond, hP]); exact k H ls locs cells slots I) (fun hP => by obtain rfl := h2 (by simp [mv_cond, hP]); exact k H ls locs cells slots I)
  · cases h
theorem mr_icmp_ne (hx : p.tables.exec = Jvm.exec) (hb : c.code = cc) {off : Int} (hdg : decode cc pc = .ok (.if_icmp .ne off, 3)) (h : mv_icmp pc lo st hp cb sb .ne off = some (.inl S)) (k : mv_K base ad dA D cl nL p l e R s m args below meth c Q S) : mv_K base ad dA D cl nL p l e R s m args below meth c Q (pc, lo, st, hp, cb, sb) := by
  intro H ls locs cells slots I
  unfold mv_icmp at h
  split at h
  · rename_i b a r
    obtain ⟨t, ht, h1, h2⟩ := mv_jump_s h
    exact lv_icmp_ne hx hb hdg ht (fun hP => by obtain rfl := h1 (by simp [mv_cond, hP]); exact k H ls locs cells slots I) (fun hP => by obtain rfl := h2 (by simp [mv_cond, hP]); exact k H ls locs cells slots I)
  · cases h
theorem mr_if_lt (hx : p.tables.exec = Jvm.exec) (hb : c.code = cc) {off : Int} (hdg : decode cc pc = .ok (.ifCond .lt off, 3)) (h : mv_if pc lo st hp cb sb .lt off = some (.inl S)) (k : mv_K base ad dA D cl nL p l e R s m args below meth c Q S) : mv_K base ad dA D cl nL p l e R s m args below meth c Q (pc, lo, st, hp, cb, sb) := by
  intro H ls locs cells slots I
  unfold mv_if at h
  split at h
  · rename_i a r
    obtain ⟨t, ht, h1, h2⟩ := mv_jump_s h
    exact lv_if_lt hx hb hdg ht (fun hP => by obtain rfl := h1 (by simp [mv_cond, hP]); exact k H ls locs cells slots I) (fun hP => by obtain rfl := h2 (by simp [mv_cond, hP]); exact k H ls locs cells slots I)
  · cases h
theorem mr_icmp_lt (hx : p.tables.exec = Jvm.exec) (hb : c.code = cc) {off : Int} (hdg : decode cc pc = .ok (.if_icmp .lt off, 3)) (h : mv_icmp pc lo st hp cb sb .lt off = some (.inl S)) (k : mv_K base ad dA D cl nL p l e R s m args below meth c Q S) : mv_K base ad dA D cl nL p l e R s m args below meth c Q (pc, lo, st, hp, cb, sb) := by
  intro H ls locs cells slots I
  unfold mv_icmp at h
  split at h
  · rename_i b a r
    obtain ⟨t, ht, h1, h2⟩ := mv_jump_s h
    exact lv_icmp_lt hx hb hdg ht (fun hP => by obtain rfl := h1 (by simp [mv_cond, hP]); exact k H ls locs cells slots I) (fun hP => by obtain rfl := h2 (by simp [mv_cond, hP]); exact k H ls locs cells slots I)
  · cases h
theorem mr_if_ge (hx : p.tables.exec = Jvm.exec) (hb : c.code = cc) {off : Int} (hdg : decode cc pc = .ok (.ifCond .ge off, 3)) (h : mv_if pc lo st hp cb sb .ge off = some (.inl S)) (k : mv_K base ad dA D cl nL p l e R s m args below meth c Q S) : mv_K base ad dA D cl nL p l e R s m args below meth c Q (pc, lo, st, hp, cb, sb) := by
  intro H ls locs cells slots I
  unfold mv_if at h
  split at h
  · rename_i a r
    obtain ⟨t, ht, h1, h2⟩ := mv_jump_s h
    exact lv_if_ge hx hb hdg ht (fun hP => by obtain rfl := h1 (by simp [mv_cond, hP]); exact k H ls locs cells slots I) (fun hP => by obtain rfl := h2 (by simp [mv_cond, hP]); exact k H ls locs cells slots I)
  · cases h
theorem mr_icmp_ge (hx : p.tables.exec = Jvm.exec) (hb : c.code = cc) {off : Int} (hdg : decode cc pc = .ok (.if_icmp .ge off, 3)) (h : mv_icmp pc lo st hp cb sb .ge off = some (.inl S)) (k : mv_K base ad dA D cl nL p l e R s m args below meth c Q S) : mv_K base ad dA D cl nL p l e R s m args below meth c Q (pc, lo, st, hp, cb, sb) := by
  intro H ls locs cells slots I
  unfold mv_icmp at h
  split at h
  · rename_i b a r
    obtain ⟨t, ht, h1, h2⟩ := mv_jump_s h
    exact lv_icmp_ge hx hb hdg ht (fun hP => by obtain rfl := h1 (by simp [mv_cond, hP]); exact k H ls locs cells slots I) (fun hP => by obtain rfl := h2 (by simp [mv_cond, hP]); exact k H ls locs cells slots I)
  · cases h
theorem mr_if_gt (hx : p.tables.exec = Jvm.exec) (hb : c.code = cc) {off : Int} (hdg : decode cc pc = .ok (.ifCond .gt off, 3)) (h : mv_if pc lo st hp cb sb .gt off = some (.inl S)) (k : mv_K base ad dA D cl nL p l e R s m args below meth c Q S) : mv_K base ad dA D cl nL p l e R s m args below meth c Q (pc, lo, st, hp, cb, sb) := by
  intro H ls locs cells slots I
  unfold mv_if at h
  split at h
  · rename_i a r
    obtain ⟨t, ht, h1, h2⟩ := mv_jump_s h
    exact lv_if_gt hx hb hdg ht (fun hP => by obtain rfl := h1 (by simp [mv_cond, hP]); exact k H ls locs cells slots I) (fun hP => by obtain rfl := h2 (by simp [mv_cond, hP]); exact k H ls locs cells slots I)
  · cases h
theorem mr_icmp_gt (hx : p.tables.exec = Jvm.exec) (hb : c.code = cc) {off : Int} (hdg : decode cc pc = .ok (.if_icmp .gt off, 3)) (h : mv_icmp pc lo st hp cb sb .gt off = some (.inl S)) (k : mv_K base ad dA D cl nL p l e R s m args below meth c Q S) : mv_K base ad dA D cl nL p l e R s m args below meth c Q (pc, lo, st, hp, cb, sb) := by
  intro H ls locs cells slots I
  unfold mv_icmp at h
  split at h
  · rename_i b a r
    obtain ⟨t, ht, h1, h2⟩ := mv_jump_s h
    exact lv_icmp_gt hx hb hdg ht (fun hP => by obtain rfl := h1 (by simp [mv_cond, hP]); exact k H ls locs cells slots I) (fun hP => by obtain rfl := h2 (by simp [mv_cond, hP]); exact k H ls locs cells slots I)
  · cases h
theorem mr_if_le (hx : p.tables.exec = Jvm.exec) (hb : c.code = cc) {off : Int} (hdg : decode cc pc = .ok (.ifCond .le off, 3)) (h : mv_if pc lo st hp cb sb .le off = some (.inl S)) (k : mv_K base ad dA D cl nL p l e R s m args below meth c Q S) : mv_K base ad dA D cl nL p l e R s m args below meth c Q (pc, lo, st, hp, cb, sb) := by
  intro H ls locs cells slots I
  unfold mv_if at h
  split at h
  · rename_i a r
    obtain ⟨t, ht, h1, h2⟩ := mv_jump_s h
    exact lv_if_le hx hb hdg ht (fun hP => by obtain rfl := h1 (by simp [mv_cond, hP]); exact k H ls locs cells slots I) (fun hP => by obtain rfl := h2 (by simp [mv_cond, hP]); exact k H ls locs cells slots I)
  · cases h
theorem mr_icmp_le (hx : p.tables.exec = Jvm.exec) (hb : c.code = cc) {off : Int} (hdg : decode cc pc = .ok (.if_icmp .le off, 3)) (h : mv_icmp pc lo st hp cb sb .le off = some (.inl S)) (k : mv_K base ad dA D cl nL p l e R s m args below meth c Q S) : mv_K base ad dA D cl nL p l e R s m args below meth c Q (pc, lo, st, hp, cb, sb) := by
  intro H ls locs cells slots I
  unfold mv_icmp at h
  split at h
  · rename_i b a r
    obtain ⟨t, ht, h1, h2⟩ := mv_jump_s h
    exact lv_icmp_le hx hb hdg ht (fun hP => by obtain rfl := h1 (by simp [mv_cond, hP]); exact k H ls locs cells slots I) (fun hP => by obtain rfl := h2 (by simp [mv_cond, hP]); exact k H ls locs cells slots I)
  · cases h
theorem mv_ptr_rf {v : Value} {o : Option Nat} (h : mv_ptr v = some o) : mv_v ad v = va_rf (o.map ad) ∧ ∀ a, o = some a → a < mv_big := by
  unfold mv_ptr at h
  split at h
  · cases h
    exact ⟨rfl, fun a q => by cases q⟩
  · split at h
    · rename_i hlt
      cases h
      exact ⟨rfl, fun a q => by cases q; exact hlt⟩
    · cases h
  · cases h
theorem mv_ptr_eq {x z : Option Nat} (hi : ∀ i j, i < mv_big → j < mv_big → ad i = ad j → i = j) (h1 : ∀ a, x = some a → a < mv_big) (h2 : ∀ a, z = some a → a < mv_big) : x.map ad = z.map ad ↔ x = z := by
  constructor
  · intro q
    cases x with
    | none => cases z with
      | none => rfl
      | some b => cases q
    | some a => cases z with
      | none => cases q
      | some b =>
        have := hi a b (h1 a rfl) (h2 b rfl) (Option.some.inj q)
        rw [this]
  · intro q
    rw [q]
theorem mr_acmp_eq (hx : p.tables.exec = Jvm.exec) (hb : c.code = cc) (hi : ∀ i j, i < mv_big → j < mv_big → ad i = ad j → i = j) {off : Int} (hdg : decode cc pc = .ok (.if_acmp .eq off, 3)) (h : mv_acmp pc lo st hp cb sb .eq off = some (.inl S)) (k : mv_K base ad dA D cl nL p l e R s m args below meth c Q S) : mv_K base ad dA D cl nL p l e R s m args below meth c Q (pc, lo, st, hp, cb, sb) := by
  intro H ls locs cells slots I
  unfold mv_acmp at h
  split at h
  · rename_i b a r
    split at h
    · rename_i x z e1 e2
      obtain ⟨t, ht, h1, h2⟩ := mv_jump_s h
      obtain ⟨f1, g1⟩ := mv_ptr_rf (ad := ad) e1
      obtain ⟨f2, g2⟩ := mv_ptr_rf (ad := ad) e2
      have hq := mv_ptr_eq hi g1 g2
      show W p l e R s m args below meth c H locs cells slots Q (F0 m pc ls (mv_v ad b :: mv_v ad a :: r.map (mv_v ad)))
      rw [f1, f2]
      exact lv_acmp_eq hx hb hdg ht (fun hP => by rw [hq] at hP; obtain rfl := h1 (by simp [hP]); exact k H ls locs cells slots I) (fun hP => by rw [hq] at hP; obtain rfl := h2 (by simp [hP]); exact k H ls locs cells slots I)
    · cases h
  · cases h
theorem mr_acmp_ne (hx : p.tables.exec = Jvm.exec) (hb : c.code = cc) (hi : ∀ i j, i < mv_big → j < mv_big → ad i = ad j → i = j) {off : Int} (hdg : decode cc pc = .ok (.if_acmp .ne off, 3)) (h : mv_acmp pc lo st hp cb sb .ne off = some (.inl S)) (k : mv_K base ad dA D cl nL p l e R s m args below meth c Q S) : mv_K base ad dA D cl nL p l e R s m args below meth c Q (pc, lo, st, hp, cb, sb) := by
  intro H ls locs cells slots I
  unfold mv_acmp at h
  split at h
  · rename_i b a r
    split at h
    · rename_i x z e1 e2
      obtain ⟨t, ht, h1, h2⟩ := mv_jump_s h
      obtain ⟨f1, g1⟩ := mv_ptr_rf (ad := ad) e1
      obtain ⟨f2, g2⟩ := mv_ptr_rf (ad := ad) e2
      have hq := mv_ptr_eq hi g1 g2
      show W p l e R s m args below meth c H locs cells slots Q (F0 m pc ls (mv_v ad b :: mv_v ad a :: r.map (mv_v ad)))
      rw [f1, f2]
      exact lv_acmp_ne hx hb hdg ht (fun hP => by rw [hq] at hP; obtain rfl := h1 (by simp [hP]); exact k H ls locs cells slots I) (fun hP => by rw [hq] at hP; obtain rfl := h2 (by simp [hP]); exact k H ls locs cells slots I)
    · cases h
  · cases h
theorem mr_ifnull (hx : p.tables.exec = Jvm.exec) (hb : c.code = cc) {off : Int} (hdg : decode cc pc = .ok (.ifnull off, 3)) (h : mv_ifn pc lo st hp cb sb true off = some (.inl S)) (k : mv_K base ad dA D cl nL p l e R s m args below meth c Q S) : mv_K base ad dA D cl nL p l e R s m args below meth c Q (pc, lo, st, hp, cb, sb) := by
  intro H ls locs cells slots I
  unfold mv_ifn at h
  split at h
  · obtain ⟨t, ht, h1, -⟩ := mv_jump_s h
    obtain rfl := h1 rfl
    exact lv_ifnullN hx hb hdg ht (k H ls locs cells slots I)
  · obtain ⟨t, ht, -, h2⟩ := mv_jump_s h
    obtain rfl := h2 rfl
    exact lv_ifnull hx hb hdg (k H ls locs cells slots I)
  · cases h
theorem mr_ifnonnull (hx : p.tables.exec = Jvm.exec) (hb : c.code = cc) {off : Int} (hdg : decode cc pc = .ok (.ifnonnull off, 3)) (h : mv_ifn pc lo st hp cb sb false off = some (.inl S)) (k : mv_K base ad dA D cl nL p l e R s m args below meth c Q S) : mv_K base ad dA D cl nL p l e R s m args below meth c Q (pc, lo, st, hp, cb, sb) := by
  intro H ls locs cells slots I
  unfold mv_ifn at h
  split at h
  · obtain ⟨t, ht, -, h2⟩ := mv_jump_s h
    obtain rfl := h2 rfl
    exact lv_ifnonnullN hx hb hdg (k H ls locs cells slots I)
  · obtain ⟨t, ht, h1, -⟩ := mv_jump_s h
    obtain rfl := h1 rfl
    exact lv_ifnonnull hx hb hdg ht (k H ls locs cells slots I)
  · cases h
theorem mr_tsw (hx : p.tables.exec = Jvm.exec) (hb : c.code = cc) {d lw hg : Int} {offs : Array Int} {len : Nat} (hdg : decode cc pc = .ok (.tableswitch d lw hg offs, len)) (h : mv_tsw pc lo st hp cb sb d lw hg offs = some (.inl S)) (k : mv_K base ad dA D cl nL p l e R s m args below meth c Q S) : mv_K base ad dA D cl nL p l e R s m args below meth c Q (pc, lo, st, hp, cb, sb) := by
  intro H ls locs cells slots I
  unfold mv_tsw at h
  split at h
  · rename_i x r
    split at h
    · rename_i hq
      split at h
      · rename_i t ht
        cases h
        exact lv_tableOut hx hb hdg hq (mv_tgt_eq ht) (k H ls locs cells slots I)
      · cases h
    · rename_i hq
      split at h
      · rename_i off ho
        split at h
        · rename_i t ht
          cases h
          exact lv_tableIn hx hb hdg (fun q => hq (Or.inl q)) (fun q => hq (Or.inr q)) ho (mv_tgt_eq ht) (k H ls locs cells slots I)
        · cases h
      · cases h
  · cases h
theorem mr_lsw (hx : p.tables.exec = Jvm.exec) (hb : c.code = cc) {d : Int} {ps : Array (Int × Int)} {len : Nat} (hdg : decode cc pc = .ok (.lookupswitch d ps, len)) (h : mv_lsw pc lo st hp cb sb d ps = some (.inl S)) (k : mv_K base ad dA D cl nL p l e R s m args below meth c Q S) : mv_K base ad dA D cl nL p l e R s m args below meth c Q (pc, lo, st, hp, cb, sb) := by
  intro H ls locs cells slots I
  unfold mv_lsw at h
  split at h
  · rename_i x r
    split at h
    · rename_i hq
      split at h
      · rename_i t ht
        cases h
        exact lv_lookup hx hb hdg hq rfl (mv_tgt_eq ht) (k H ls locs cells slots I)
      · cases h
    · cases h
  · cases h
end MVN
end
